def gX0_init_J1 (a0 : Nat) (h5 : Zh) : Int32 → Option (Zh) :=
  fun (x21 : Int32) => zlt (zsI h5 a0 5 x21) (fun (h6 : Zh) => some h6)
def gX0_init (h : Zh) (a0 : Nat) (x1 : Int32) (x2 : Int32) (x3 : Int32) (x4 : Int32) : Option (Zh) :=
  zlt (zsI h a0 0 x1) (fun (h1 : Zh) => zg (zbl x2) (zlt (zsI h1 a0 1 x2) (fun (h2 : Zh) => zlt (zsI h2 a0 2 x3) (fun (h3 : Zh) => zlt (zsI h3 a0 3 x4) (fun (h4 : Zh) => zlt (zsI h4 a0 4 ((1 : Int32) <<< (x1 &&& 31))) (fun (h5 : Zh) => zjn (gX0_init_J1 a0 h5) (fun (k22 : Int32 → Option (Zh)) =>
  (if (x2 : Int32) = 0 then k22 (x1 - 1)
  else k22 x1))))))))
set_option maxRecDepth 20000 in
theorem cX0_init_ok (l : Launch) (h : Zh) (a0 : Nat) (x1 : Int32) (x2 : Int32) (x3 : Int32) (x4 : Int32) : Zc l yX0_init mX0_init 0 h [(.ref a0, 0), (.int x1, 0), (.int x2, 0), (.int x3, 0), (.int x4, 0)] ((gX0_init h a0 x1 x2 x3 x4).map zoV) := by
  refine zc_of2 (ls := [some (.ref a0, 0), some (.int x1, 0), some (.int x2, 0), some (.int x3, 0), some (.int x4, 0)]) (j := 0) (by decide +kernel) rfl rfl (zEn_ca (zEn_ci (zEn_ci (zEn_ci (zEn_ci rfl))))) (Nat.le_of_ble_eq_true rfl) rfl ?_
  unfold gX0_init
  refine zr_aload_n (r := (some a0)) (eX0_init 0 rfl) rfl rfl ?_
  refine zr_objI ⟨zw_89, zw_80, zw_81⟩ ⟨Nat.le_of_ble_eq_true rfl, Nat.le_of_ble_eq_true rfl⟩ (Nat.le_of_ble_eq_true rfl) (eX0_init 1 rfl) ?_
  refine zr_aload_n (r := (some a0)) (eX0_init 2 rfl) rfl rfl ?_
  refine zr_iload_n (eX0_init 3 rfl) rfl rfl ?_
  refine zr_putI zf_RX0_7 rfl (Or.inr ⟨rfl, rfl⟩) (eX0_init 4 rfl) ?_
  refine v_leth (fun h1 => ?_)
  refine zr_aload_n (r := (some a0)) (eX0_init 5 rfl) rfl rfl ?_
  refine zr_iload_n (eX0_init 6 rfl) rfl rfl ?_
  refine v_g (fun hb => ?_)
  refine zr_putZ zf_RX0_13 rfl (zbl_of hb) (Or.inr ⟨rfl, rfl⟩) (eX0_init 7 rfl) ?_
  refine v_leth (fun h2 => ?_)
  refine zr_aload_n (r := (some a0)) (eX0_init 8 rfl) rfl rfl ?_
  refine zr_iload_n (eX0_init 9 rfl) rfl rfl ?_
  refine zr_putI zf_RX0_17 rfl (Or.inr ⟨rfl, rfl⟩) (eX0_init 10 rfl) ?_
  refine v_leth (fun h3 => ?_)
  refine zr_aload_n (r := (some a0)) (eX0_init 11 rfl) rfl rfl ?_
  refine zr_iload (eX0_init 12 rfl) rfl ?_
  refine zr_putI zf_RX0_20 rfl (Or.inr ⟨rfl, rfl⟩) (eX0_init 13 rfl) ?_
  refine v_leth (fun h4 => ?_)
  refine zr_aload_n (r := (some a0)) (eX0_init 14 rfl) rfl rfl ?_
  refine zr_iconst (eX0_init 15 rfl) zk_iconst_1 ?_
  refine zr_iload_n (eX0_init 16 rfl) rfl rfl ?_
  refine zr_ishl (eX0_init 17 rfl) ?_
  refine zr_putI zf_RX0_23 rfl (Or.inr ⟨rfl, rfl⟩) (eX0_init 18 rfl) ?_
  refine v_leth (fun h5 => ?_)
  refine zr_aload_n (r := (some a0)) (eX0_init 19 rfl) rfl rfl ?_
  refine zr_iload_n (eX0_init 20 rfl) rfl rfl ?_
  refine v_jn (fun (k22 : Int32 → Option (Zh)) => ∀ (x21 : Int32), V l mX0_init (zN h) (zS h) 0 zoV 44 [none, none, none, none, none] [(.int x21, 0), (.ref a0, 0)] h5 (k22 x21)) ?_ ?_
  · intro x21
    unfold gX0_init_J1
    refine zr_putI zf_RX0_26 rfl (Or.inr ⟨rfl, rfl⟩) (eX0_init 27 rfl) ?_
    refine v_leth (fun h6 => ?_)
    exact zr_vret rfl rfl (eX0_init 28 rfl)
  intro k22 hk22
  refine zr_if_eq (eX0_init 21 rfl) (t := 41) (by decide) ?_ ?_
  · refine zr_iload_n (eX0_init 24 rfl) rfl rfl ?_
    refine zr_iconst (eX0_init 25 rfl) zk_iconst_1 ?_
    refine zr_isub (eX0_init 26 rfl) ?_
    exact v_drop [false, false, false, false, false] rfl (hk22 (x1 - 1))
  · refine zr_iload_n (eX0_init 22 rfl) rfl rfl ?_
    refine zr_goto (eX0_init 23 rfl) (t := 44) (by decide) ?_
    exact v_drop [false, false, false, false, false] rfl (hk22 x1)
def gX0_pairBits (h : Zh) (a0 : Nat) (x1 : Int32) : Option (Int32) :=
  (if (((zI h a0 0) - 1) : Int32) ≤ x1 then (some (1 ||| ((1 : Int32) <<< (((zI h a0 0) - 1) &&& 31))))
  else (some ((3 : Int32) <<< (x1 &&& 31))))
set_option maxRecDepth 20000 in
theorem cX0_pairBits_ok (l : Launch) (h : Zh) (a0 : Nat) (x1 : Int32) : Zc l yX0_pairBits mX0_pairBits 0 h [(.ref a0, 0), (.int x1, 0)] ((gX0_pairBits h a0 x1).map (zoi h)) := by
  refine zc_of2 (ls := [some (.ref a0, 0), some (.int x1, 0)]) (j := 0) (by decide +kernel) rfl rfl (zEn_ca (zEn_ci rfl)) (Nat.le_of_ble_eq_true rfl) rfl ?_
  unfold gX0_pairBits
  refine zr_iload_n (eX0_pairBits 0 rfl) rfl rfl ?_
  refine zr_aload_n (r := (some a0)) (eX0_pairBits 1 rfl) rfl rfl ?_
  refine zr_getI zf_RX0_7 ⟨by decide, by decide⟩ (eX0_pairBits 2 rfl) ?_
  refine zr_iconst (eX0_pairBits 3 rfl) zk_iconst_1 ?_
  refine zr_isub (eX0_pairBits 4 rfl) ?_
  refine zr_icmp_ge (eX0_pairBits 5 rfl) (t := 16) (by decide) ?_ ?_
  · refine zr_iconst (eX0_pairBits 10 rfl) zk_iconst_1 ?_
    refine zr_iconst (eX0_pairBits 11 rfl) zk_iconst_1 ?_
    refine zr_aload_n (r := (some a0)) (eX0_pairBits 12 rfl) rfl rfl ?_
    refine zr_getI zf_RX0_7 ⟨by decide, by decide⟩ (eX0_pairBits 13 rfl) ?_
    refine zr_iconst (eX0_pairBits 14 rfl) zk_iconst_1 ?_
    refine zr_isub (eX0_pairBits 15 rfl) ?_
    refine zr_ishl (eX0_pairBits 16 rfl) ?_
    refine zr_ior (eX0_pairBits 17 rfl) ?_
    exact zr_iret rfl rfl (eX0_pairBits 18 rfl)
  · refine zr_iconst (eX0_pairBits 6 rfl) zk_iconst_3 ?_
    refine zr_iload_n (eX0_pairBits 7 rfl) rfl rfl ?_
    refine zr_ishl (eX0_pairBits 8 rfl) ?_
    refine zr_goto (eX0_pairBits 9 rfl) (t := 26) (by decide) ?_
    exact zr_iret rfl rfl (eX0_pairBits 18 rfl)
def gX0_pairsOf_J1 (x23 : Int32) (k24 : Int32 → Int32 → Option (Int32)) : Int32 → Option (Int32) :=
  fun (x26 : Int32) => k24 x26 (x23 + 1)
def gX0_pairsOf_L2 (h : Zh) (a0 : Nat) (x1 : Int32) : (Int32 → Int32 → Option (Int32)) → Int32 → Int32 → Option (Int32) :=
  fun (k24 : Int32 → Int32 → Option (Int32)) (x22 : Int32) (x23 : Int32) => (if ((zI h a0 5) : Int32) ≤ x23 then (some x22)
  else zbi (gX0_pairBits h a0 x23) (fun x25 => zjn (gX0_pairsOf_J1 x23 k24) (fun (k27 : Int32 → Option (Int32)) =>
  (if (x25 : Int32) = x1 then k27 (x22 + 1)
  else k27 x22))))
def gX0_pairsOf (h : Zh) (a0 : Nat) (x1 : Int32) : Option (Int32) :=
  zbi (gJ6_bitCount_0f7a4 x1) (fun x21 => (if (x21 : Int32) = 2 then zlp (fun (_ : Int32) (_ : Int32) => (none : Option (Int32))) (gX0_pairsOf_L2 h a0 x1) zFU 0 0
  else (some 0)))
set_option maxRecDepth 20000 in
theorem cX0_pairsOf_ok (l : Launch) (h : Zh) (a0 : Nat) (x1 : Int32) : Zc l yX0_pairsOf mX0_pairsOf 0 h [(.ref a0, 0), (.int x1, 0)] ((gX0_pairsOf h a0 x1).map (zoi h)) := by
  refine zc_of2 (ls := [some (.ref a0, 0), some (.int x1, 0), none, none]) (j := 2) (by decide +kernel) rfl rfl (zEn_ca (zEn_ci rfl)) (Nat.le_of_ble_eq_true rfl) rfl ?_
  unfold gX0_pairsOf
  refine zr_iload_n (eX0_pairsOf 0 rfl) rfl rfl ?_
  refine zr_invS_i (as := [(.int x1, 0)]) (cJ6_bitCount_0f7a4_ok l h x1) rfl zcd_J6_bitCount_0f7a4 ⟨zw_251, zw_252, zw_63⟩ ⟨Nat.le_of_ble_eq_true rfl, Nat.le_of_ble_eq_true rfl⟩ rfl (Nat.le_of_ble_eq_true rfl) (eX0_pairsOf 1 rfl) (fun x21 => ?_)
  refine zr_iconst (eX0_pairsOf 2 rfl) zk_iconst_2 ?_
  refine zr_icmp_eq (eX0_pairsOf 3 rfl) (t := 10) (by decide) ?_ ?_
  · refine zr_iconst (eX0_pairsOf 6 rfl) zk_iconst_0 ?_
    refine zr_istore_n (ls2 := [some (.ref a0, 0), some (.int x1, 0), some (.int 0, 0), none]) (eX0_pairsOf 7 rfl) rfl (Nat.le_of_ble_eq_true rfl) rfl ?_
    refine zr_iconst (eX0_pairsOf 8 rfl) zk_iconst_0 ?_
    refine zr_istore_n (ls2 := [some (.ref a0, 0), some (.int x1, 0), some (.int 0, 0), some (.int 0, 0)]) (eX0_pairsOf 9 rfl) rfl (Nat.le_of_ble_eq_true rfl) rfl ?_
    refine v_drop [true, true, true, true] rfl ?_
    refine zlp_ind (fun (k24 : Int32 → Int32 → Option (Int32)) => ∀ (x22 : Int32) (x23 : Int32), V l mX0_pairsOf (zN h) (zS h) 0 (zoi h) 14 [some (.ref a0, 0), some (.int x1, 0), some (.int x22, 0), some (.int x23, 0)] [] h (k24 x22 x23)) ?_ ?_ 0 0
    · exact fun _ _ => v_none
    intro k24 hk24 x22 x23
    unfold gX0_pairsOf_L2
    refine zr_iload_n (eX0_pairsOf 10 rfl) rfl rfl ?_
    refine zr_aload_n (r := (some a0)) (eX0_pairsOf 11 rfl) rfl rfl ?_
    refine zr_getI zf_RX0_26 ⟨by decide, by decide⟩ (eX0_pairsOf 12 rfl) ?_
    refine zr_icmp_ge (eX0_pairsOf 13 rfl) (t := 40) (by decide) ?_ ?_
    · refine zr_iload_n (eX0_pairsOf 22 rfl) rfl rfl ?_
      exact zr_iret rfl rfl (eX0_pairsOf 23 rfl)
    · refine zr_aload_n (r := (some a0)) (eX0_pairsOf 14 rfl) rfl rfl ?_
      refine zr_iload_n (eX0_pairsOf 15 rfl) rfl rfl ?_
      refine zr_invV_i (as := [(.int x23, 0)]) (cX0_pairBits_ok l h a0 x23) rfl rfl ⟨by decide, by decide, by decide⟩ zcd_X0_pairBits rfl ⟨zw_261, zw_262, zw_263, zw_59⟩ ⟨Nat.le_of_ble_eq_true rfl, Nat.le_of_ble_eq_true rfl⟩ rfl (Nat.le_of_ble_eq_true rfl) (eX0_pairsOf 16 rfl) (fun x25 => ?_)
      refine zr_iload_n (eX0_pairsOf 17 rfl) rfl rfl ?_
      refine v_jn (fun (k27 : Int32 → Option (Int32)) => ∀ (x26 : Int32), V l mX0_pairsOf (zN h) (zS h) 0 (zoi h) 34 [some (.ref a0, 0), some (.int x1, 0), some (.int x26, 0), some (.int x23, 0)] [] h (k27 x26)) ?_ ?_
      · intro x26
        unfold gX0_pairsOf_J1
        refine zr_iinc (ls2 := [some (.ref a0, 0), some (.int x1, 0), some (.int x26, 0), some (.int (x23 + 1), 0)]) (eX0_pairsOf 20 rfl) rfl (Nat.le_of_ble_eq_true rfl) zk_iconst_1 rfl ?_
        refine zr_goto (eX0_pairsOf 21 rfl) (t := 14) (by decide) ?_
        exact v_drop [true, true, true, true] rfl (hk24 x26 (x23 + 1))
      intro k27 hk27
      refine zr_icmp_ne (eX0_pairsOf 18 rfl) (t := 34) (by decide) ?_ ?_
      · exact v_drop [true, true, true, true] rfl (hk27 x22)
      · refine zr_iinc (ls2 := [some (.ref a0, 0), some (.int x1, 0), some (.int (x22 + 1), 0), some (.int x23, 0)]) (eX0_pairsOf 19 rfl) rfl (Nat.le_of_ble_eq_true rfl) zk_iconst_1 rfl ?_
        exact v_drop [true, true, true, true] rfl (hk27 (x22 + 1))
  · refine zr_iconst (eX0_pairsOf 4 rfl) zk_iconst_0 ?_
    exact zr_iret rfl rfl (eX0_pairsOf 5 rfl)
def gX0_onward (h : Zh) (a0 : Nat) (x1 : Int32) : Option (Int32) :=
  (some (((x1 <<< ((1 : Int32) &&& 31)) ||| (x1 >>> (((zI h a0 0) - 1) &&& 31))) &&& ((zI h a0 4) - 1)))
set_option maxRecDepth 20000 in
theorem cX0_onward_ok (l : Launch) (h : Zh) (a0 : Nat) (x1 : Int32) : Zc l yX0_onward mX0_onward 0 h [(.ref a0, 0), (.int x1, 0)] ((gX0_onward h a0 x1).map (zoi h)) := by
  refine zc_of2 (ls := [some (.ref a0, 0), some (.int x1, 0)]) (j := 0) (by decide +kernel) rfl rfl (zEn_ca (zEn_ci rfl)) (Nat.le_of_ble_eq_true rfl) rfl ?_
  unfold gX0_onward
  refine zr_iload_n (eX0_onward 0 rfl) rfl rfl ?_
  refine zr_iconst (eX0_onward 1 rfl) zk_iconst_1 ?_
  refine zr_ishl (eX0_onward 2 rfl) ?_
  refine zr_iload_n (eX0_onward 3 rfl) rfl rfl ?_
  refine zr_aload_n (r := (some a0)) (eX0_onward 4 rfl) rfl rfl ?_
  refine zr_getI zf_RX0_7 ⟨by decide, by decide⟩ (eX0_onward 5 rfl) ?_
  refine zr_iconst (eX0_onward 6 rfl) zk_iconst_1 ?_
  refine zr_isub (eX0_onward 7 rfl) ?_
  refine zr_ishr (eX0_onward 8 rfl) ?_
  refine zr_ior (eX0_onward 9 rfl) ?_
  refine zr_aload_n (r := (some a0)) (eX0_onward 10 rfl) rfl rfl ?_
  refine zr_getI zf_RX0_23 ⟨by decide, by decide⟩ (eX0_onward 11 rfl) ?_
  refine zr_iconst (eX0_onward 12 rfl) zk_iconst_1 ?_
  refine zr_isub (eX0_onward 13 rfl) ?_
  refine zr_iand (eX0_onward 14 rfl) ?_
  exact zr_iret rfl rfl (eX0_onward 15 rfl)
def gX0_mirrored_L1 (h : Zh) (a0 : Nat) (x1 : Int32) : (Int32 → Int32 → Option (Int32)) → Int32 → Int32 → Option (Int32) :=
  fun (k23 : Int32 → Int32 → Option (Int32)) (x21 : Int32) (x22 : Int32) => (if ((zI h a0 0) : Int32) ≤ x22 then (some x21)
  else zlt ((x21 <<< ((1 : Int32) &&& 31)) ||| ((x1 >>> (x22 &&& 31)) &&& 1)) (fun x24 => k23 x24 (x22 + 1)))
def gX0_mirrored (h : Zh) (a0 : Nat) (x1 : Int32) : Option (Int32) :=
  zlp (fun (_ : Int32) (_ : Int32) => (none : Option (Int32))) (gX0_mirrored_L1 h a0 x1) zFU 0 0
set_option maxRecDepth 20000 in
theorem cX0_mirrored_ok (l : Launch) (h : Zh) (a0 : Nat) (x1 : Int32) : Zc l yX0_mirrored mX0_mirrored 0 h [(.ref a0, 0), (.int x1, 0)] ((gX0_mirrored h a0 x1).map (zoi h)) := by
  refine zc_of2 (ls := [some (.ref a0, 0), some (.int x1, 0), none, none]) (j := 2) (by decide +kernel) rfl rfl (zEn_ca (zEn_ci rfl)) (Nat.le_of_ble_eq_true rfl) rfl ?_
  unfold gX0_mirrored
  refine zr_iconst (eX0_mirrored 0 rfl) zk_iconst_0 ?_
  refine zr_istore_n (ls2 := [some (.ref a0, 0), some (.int x1, 0), some (.int 0, 0), none]) (eX0_mirrored 1 rfl) rfl (Nat.le_of_ble_eq_true rfl) rfl ?_
  refine zr_iconst (eX0_mirrored 2 rfl) zk_iconst_0 ?_
  refine zr_istore_n (ls2 := [some (.ref a0, 0), some (.int x1, 0), some (.int 0, 0), some (.int 0, 0)]) (eX0_mirrored 3 rfl) rfl (Nat.le_of_ble_eq_true rfl) rfl ?_
  refine v_drop [true, true, true, true] rfl ?_
  refine zlp_ind (fun (k23 : Int32 → Int32 → Option (Int32)) => ∀ (x21 : Int32) (x22 : Int32), V l mX0_mirrored (zN h) (zS h) 0 (zoi h) 4 [some (.ref a0, 0), some (.int x1, 0), some (.int x21, 0), some (.int x22, 0)] [] h (k23 x21 x22)) ?_ ?_ 0 0
  · exact fun _ _ => v_none
  intro k23 hk23 x21 x22
  unfold gX0_mirrored_L1
  refine zr_iload_n (eX0_mirrored 4 rfl) rfl rfl ?_
  refine zr_aload_n (r := (some a0)) (eX0_mirrored 5 rfl) rfl rfl ?_
  refine zr_getI zf_RX0_7 ⟨by decide, by decide⟩ (eX0_mirrored 6 rfl) ?_
  refine zr_icmp_ge (eX0_mirrored 7 rfl) (t := 28) (by decide) ?_ ?_
  · refine zr_iload_n (eX0_mirrored 20 rfl) rfl rfl ?_
    exact zr_iret rfl rfl (eX0_mirrored 21 rfl)
  · refine zr_iload_n (eX0_mirrored 8 rfl) rfl rfl ?_
    refine zr_iconst (eX0_mirrored 9 rfl) zk_iconst_1 ?_
    refine zr_ishl (eX0_mirrored 10 rfl) ?_
    refine zr_iload_n (eX0_mirrored 11 rfl) rfl rfl ?_
    refine zr_iload_n (eX0_mirrored 12 rfl) rfl rfl ?_
    refine zr_ishr (eX0_mirrored 13 rfl) ?_
    refine zr_iconst (eX0_mirrored 14 rfl) zk_iconst_1 ?_
    refine zr_iand (eX0_mirrored 15 rfl) ?_
    refine zr_ior (eX0_mirrored 16 rfl) ?_
    refine v_leti (fun x24 => ?_)
    refine zr_istore_n (ls2 := [some (.ref a0, 0), some (.int x1, 0), some (.int x24, 0), some (.int x22, 0)]) (eX0_mirrored 17 rfl) rfl (Nat.le_of_ble_eq_true rfl) rfl ?_
    refine zr_iinc (ls2 := [some (.ref a0, 0), some (.int x1, 0), some (.int x24, 0), some (.int (x22 + 1), 0)]) (eX0_mirrored 18 rfl) rfl (Nat.le_of_ble_eq_true rfl) zk_iconst_1 rfl ?_
    refine zr_goto (eX0_mirrored 19 rfl) (t := 4) (by decide) ?_
    exact v_drop [true, true, true, true] rfl (hk23 x24 (x22 + 1))
def gX0_turn (h : Zh) (a0 : Nat) (x1 : Int32) : Option (Int32) :=
  (if ((zI h a0 1) : Int32) = 0 then zbi (gX0_mirrored h a0 x1) (fun x21 => (some x21))
  else zbi (gX0_onward h a0 x1) (fun x22 => (some x22)))
set_option maxRecDepth 20000 in
theorem cX0_turn_ok (l : Launch) (h : Zh) (a0 : Nat) (x1 : Int32) : Zc l yX0_turn mX0_turn 0 h [(.ref a0, 0), (.int x1, 0)] ((gX0_turn h a0 x1).map (zoi h)) := by
  refine zc_of2 (ls := [some (.ref a0, 0), some (.int x1, 0)]) (j := 0) (by decide +kernel) rfl rfl (zEn_ca (zEn_ci rfl)) (Nat.le_of_ble_eq_true rfl) rfl ?_
  unfold gX0_turn
  refine zr_aload_n (r := (some a0)) (eX0_turn 0 rfl) rfl rfl ?_
  refine zr_getI zf_RX0_13 ⟨by decide, by decide⟩ (eX0_turn 1 rfl) ?_
  refine zr_if_eq (eX0_turn 2 rfl) (t := 15) (by decide) ?_ ?_
  · refine zr_aload_n (r := (some a0)) (eX0_turn 7 rfl) rfl rfl ?_
    refine zr_iload_n (eX0_turn 8 rfl) rfl rfl ?_
    refine zr_invV_i (as := [(.int x1, 0)]) (cX0_mirrored_ok l h a0 x1) rfl rfl ⟨by decide, by decide, by decide⟩ zcd_X0_mirrored rfl ⟨zw_273, zw_274, zw_275, zw_59⟩ ⟨Nat.le_of_ble_eq_true rfl, Nat.le_of_ble_eq_true rfl⟩ rfl (Nat.le_of_ble_eq_true rfl) (eX0_turn 9 rfl) (fun x21 => ?_)
    exact zr_iret rfl rfl (eX0_turn 10 rfl)
  · refine zr_aload_n (r := (some a0)) (eX0_turn 3 rfl) rfl rfl ?_
    refine zr_iload_n (eX0_turn 4 rfl) rfl rfl ?_
    refine zr_invV_i (as := [(.int x1, 0)]) (cX0_onward_ok l h a0 x1) rfl rfl ⟨by decide, by decide, by decide⟩ zcd_X0_onward rfl ⟨zw_247, zw_248, zw_249, zw_59⟩ ⟨Nat.le_of_ble_eq_true rfl, Nat.le_of_ble_eq_true rfl⟩ rfl (Nat.le_of_ble_eq_true rfl) (eX0_turn 5 rfl) (fun x22 => ?_)
    refine zr_goto (eX0_turn 6 rfl) (t := 20) (by decide) ?_
    exact zr_iret rfl rfl (eX0_turn 10 rfl)
def gX0_stay_J1 (h : Zh) (a0 : Nat) : Int32 → Option (Int32) :=
  fun (x21 : Int32) => zbi (gJ6_bitCount_0f7a4 x21) (fun x22 => (some ((zI h a0 3) * ((zI h a0 5) - (2 * x22)))))
def gX0_stay (h : Zh) (a0 : Nat) (x1 : Int32) : Option (Int32) :=
  zjn (gX0_stay_J1 h a0) (fun (k23 : Int32 → Option (Int32)) =>
  (if ((zI h a0 1) : Int32) = 0 then (if (2 : Int32) = 0 then none else k23 ((x1 ^^^ (x1 >>> ((1 : Int32) &&& 31))) &&& (((zI h a0 4) / 2) - 1)))
  else zbi (gX0_onward h a0 x1) (fun x24 => k23 (x1 ^^^ x24))))
set_option maxRecDepth 20000 in
theorem cX0_stay_ok (l : Launch) (h : Zh) (a0 : Nat) (x1 : Int32) : Zc l yX0_stay mX0_stay 0 h [(.ref a0, 0), (.int x1, 0)] ((gX0_stay h a0 x1).map (zoi h)) := by
  refine zc_of2 (ls := [some (.ref a0, 0), some (.int x1, 0), none]) (j := 1) (by decide +kernel) rfl rfl (zEn_ca (zEn_ci rfl)) (Nat.le_of_ble_eq_true rfl) rfl ?_
  unfold gX0_stay
  refine zr_aload_n (r := (some a0)) (eX0_stay 0 rfl) rfl rfl ?_
  refine zr_getI zf_RX0_13 ⟨by decide, by decide⟩ (eX0_stay 1 rfl) ?_
  refine v_jn (fun (k23 : Int32 → Option (Int32)) => ∀ (x21 : Int32), V l mX0_stay (zN h) (zS h) 0 (zoi h) 31 [some (.ref a0, 0), none, none] [(.int x21, 0)] h (k23 x21)) ?_ ?_
  · intro x21
    unfold gX0_stay_J1
    refine zr_istore_n (ls2 := [some (.ref a0, 0), none, some (.int x21, 0)]) (eX0_stay 21 rfl) rfl (Nat.le_of_ble_eq_true rfl) rfl ?_
    refine zr_aload_n (r := (some a0)) (eX0_stay 22 rfl) rfl rfl ?_
    refine zr_getI zf_RX0_20 ⟨by decide, by decide⟩ (eX0_stay 23 rfl) ?_
    refine zr_aload_n (r := (some a0)) (eX0_stay 24 rfl) rfl rfl ?_
    refine zr_getI zf_RX0_26 ⟨by decide, by decide⟩ (eX0_stay 25 rfl) ?_
    refine zr_iconst (eX0_stay 26 rfl) zk_iconst_2 ?_
    refine zr_iload_n (eX0_stay 27 rfl) rfl rfl ?_
    refine zr_invS_i (as := [(.int x21, 0)]) (cJ6_bitCount_0f7a4_ok l h x21) rfl zcd_J6_bitCount_0f7a4 ⟨zw_251, zw_252, zw_63⟩ ⟨Nat.le_of_ble_eq_true rfl, Nat.le_of_ble_eq_true rfl⟩ rfl (Nat.le_of_ble_eq_true rfl) (eX0_stay 28 rfl) (fun x22 => ?_)
    refine zr_imul (eX0_stay 29 rfl) ?_
    refine zr_isub (eX0_stay 30 rfl) ?_
    refine zr_imul (eX0_stay 31 rfl) ?_
    exact zr_iret rfl rfl (eX0_stay 32 rfl)
  intro k23 hk23
  refine zr_if_eq (eX0_stay 2 rfl) (t := 17) (by decide) ?_ ?_
  · refine zr_iload_n (eX0_stay 9 rfl) rfl rfl ?_
    refine zr_iload_n (eX0_stay 10 rfl) rfl rfl ?_
    refine zr_iconst (eX0_stay 11 rfl) zk_iconst_1 ?_
    refine zr_ishr (eX0_stay 12 rfl) ?_
    refine zr_ixor (eX0_stay 13 rfl) ?_
    refine zr_aload_n (r := (some a0)) (eX0_stay 14 rfl) rfl rfl ?_
    refine zr_getI zf_RX0_23 ⟨by decide, by decide⟩ (eX0_stay 15 rfl) ?_
    refine zr_iconst (eX0_stay 16 rfl) zk_iconst_2 ?_
    refine zr_idiv (eX0_stay 17 rfl) ?_
    refine zr_iconst (eX0_stay 18 rfl) zk_iconst_1 ?_
    refine zr_isub (eX0_stay 19 rfl) ?_
    refine zr_iand (eX0_stay 20 rfl) ?_
    exact v_drop [true, false, false] rfl (hk23 ((x1 ^^^ (x1 >>> ((1 : Int32) &&& 31))) &&& (((zI h a0 4) / 2) - 1)))
  · refine zr_iload_n (eX0_stay 3 rfl) rfl rfl ?_
    refine zr_aload_n (r := (some a0)) (eX0_stay 4 rfl) rfl rfl ?_
    refine zr_iload_n (eX0_stay 5 rfl) rfl rfl ?_
    refine zr_invV_i (as := [(.int x1, 0)]) (cX0_onward_ok l h a0 x1) rfl rfl ⟨by decide, by decide, by decide⟩ zcd_X0_onward rfl ⟨zw_247, zw_248, zw_249, zw_59⟩ ⟨Nat.le_of_ble_eq_true rfl, Nat.le_of_ble_eq_true rfl⟩ rfl (Nat.le_of_ble_eq_true rfl) (eX0_stay 6 rfl) (fun x24 => ?_)
    refine zr_ixor (eX0_stay 7 rfl) ?_
    refine zr_goto (eX0_stay 8 rfl) (t := 31) (by decide) ?_
    exact v_drop [true, false, false] rfl (hk23 (x1 ^^^ x24))
def gX0_hop (h : Zh) (a0 : Nat) (x1 : Int32) (x2 : Int32) : Option (Int32) :=
  (if (x1 : Int32) = x2 then zbi (gX0_stay h a0 x1) (fun x24 => (some x24))
  else zlt (x1 ^^^ x2) (fun x21 => zlt (x1 &&& x21) (fun x22 => (if (x22 : Int32) = 0 then (some 0)
  else (if (x22 : Int32) = x21 then (some 0)
  else zbi (gX0_pairsOf h a0 x21) (fun x23 => (some ((zI h a0 2) * x23))))))))
set_option maxRecDepth 20000 in
theorem cX0_hop_ok (l : Launch) (h : Zh) (a0 : Nat) (x1 : Int32) (x2 : Int32) : Zc l yX0_hop mX0_hop 0 h [(.ref a0, 0), (.int x1, 0), (.int x2, 0)] ((gX0_hop h a0 x1 x2).map (zoi h)) := by
  refine zc_of2 (ls := [some (.ref a0, 0), some (.int x1, 0), some (.int x2, 0), none, none]) (j := 2) (by decide +kernel) rfl rfl (zEn_ca (zEn_ci (zEn_ci rfl))) (Nat.le_of_ble_eq_true rfl) rfl ?_
  unfold gX0_hop
  refine zr_iload_n (eX0_hop 0 rfl) rfl rfl ?_
  refine zr_iload_n (eX0_hop 1 rfl) rfl rfl ?_
  refine zr_icmp_ne (eX0_hop 2 rfl) (t := 11) (by decide) ?_ ?_
  · refine zr_iload_n (eX0_hop 7 rfl) rfl rfl ?_
    refine zr_iload_n (eX0_hop 8 rfl) rfl rfl ?_
    refine zr_ixor (eX0_hop 9 rfl) ?_
    refine v_leti (fun x21 => ?_)
    refine zr_istore_n (ls2 := [some (.ref a0, 0), some (.int x1, 0), some (.int x2, 0), some (.int x21, 0), none]) (eX0_hop 10 rfl) rfl (Nat.le_of_ble_eq_true rfl) rfl ?_
    refine zr_iload_n (eX0_hop 11 rfl) rfl rfl ?_
    refine zr_iload_n (eX0_hop 12 rfl) rfl rfl ?_
    refine zr_iand (eX0_hop 13 rfl) ?_
    refine v_leti (fun x22 => ?_)
    refine zr_istore (ls2 := [some (.ref a0, 0), some (.int x1, 0), some (.int x2, 0), some (.int x21, 0), some (.int x22, 0)]) (eX0_hop 14 rfl) (Nat.le_of_ble_eq_true rfl) rfl ?_
    refine zr_iload (eX0_hop 15 rfl) rfl ?_
    refine zr_if_eq (eX0_hop 16 rfl) (t := 31) (by decide) ?_ ?_
    · refine zr_iconst (eX0_hop 20 rfl) zk_iconst_0 ?_
      exact zr_iret rfl rfl (eX0_hop 21 rfl)
    · refine zr_iload (eX0_hop 17 rfl) rfl ?_
      refine zr_iload_n (eX0_hop 18 rfl) rfl rfl ?_
      refine zr_icmp_ne (eX0_hop 19 rfl) (t := 33) (by decide) ?_ ?_
      · refine zr_aload_n (r := (some a0)) (eX0_hop 22 rfl) rfl rfl ?_
        refine zr_getI zf_RX0_17 ⟨by decide, by decide⟩ (eX0_hop 23 rfl) ?_
        refine zr_aload_n (r := (some a0)) (eX0_hop 24 rfl) rfl rfl ?_
        refine zr_iload_n (eX0_hop 25 rfl) rfl rfl ?_
        refine zr_invV_i (as := [(.int x21, 0)]) (cX0_pairsOf_ok l h a0 x21) rfl rfl ⟨by decide, by decide, by decide⟩ zcd_X0_pairsOf rfl ⟨zw_257, zw_258, zw_259, zw_59⟩ ⟨Nat.le_of_ble_eq_true rfl, Nat.le_of_ble_eq_true rfl⟩ rfl (Nat.le_of_ble_eq_true rfl) (eX0_hop 26 rfl) (fun x23 => ?_)
        refine zr_imul (eX0_hop 27 rfl) ?_
        exact zr_iret rfl rfl (eX0_hop 28 rfl)
      · refine zr_iconst (eX0_hop 20 rfl) zk_iconst_0 ?_
        exact zr_iret rfl rfl (eX0_hop 21 rfl)
  · refine zr_aload_n (r := (some a0)) (eX0_hop 3 rfl) rfl rfl ?_
    refine zr_iload_n (eX0_hop 4 rfl) rfl rfl ?_
    refine zr_invV_i (as := [(.int x1, 0)]) (cX0_stay_ok l h a0 x1) rfl rfl ⟨by decide, by decide, by decide⟩ zcd_X0_stay rfl ⟨zw_243, zw_244, zw_245, zw_59⟩ ⟨Nat.le_of_ble_eq_true rfl, Nat.le_of_ble_eq_true rfl⟩ rfl (Nat.le_of_ble_eq_true rfl) (eX0_hop 5 rfl) (fun x24 => ?_)
    exact zr_iret rfl rfl (eX0_hop 6 rfl)
def gX1_init (h : Zh) (a0 : Nat) : Option (Zh) :=
  zg (zok 20) (zlt (zN h) (fun a21 => zlt (zA h 20 (zx 20)) (fun (h1 : Zh) => zlt (zsR h1 a0 0 (some a21)) (fun (h2 : Zh) => zg (zok 400) (zlt (zN h2) (fun a22 => zlt (zA h2 21 (zx 400)) (fun (h3 : Zh) => zlt (zsR h3 a0 1 (some a22)) (fun (h4 : Zh) => zg (zok 400) (zlt (zN h4) (fun a23 => zlt (zA h4 21 (zx 400)) (fun (h5 : Zh) => zlt (zsR h5 a0 2 (some a23)) (fun (h6 : Zh) => zg (zok 400) (zlt (zN h6) (fun a24 => zlt (zA h6 21 (zx 400)) (fun (h7 : Zh) => zlt (zsR h7 a0 3 (some a24)) (fun (h8 : Zh) => zg (zok 400) (zlt (zN h8) (fun a25 => zlt (zA h8 21 (zx 400)) (fun (h9 : Zh) => zlt (zsR h9 a0 4 (some a25)) (fun (h10 : Zh) => zg (zok 64) (zlt (zN h10) (fun a26 => zlt (zA h10 21 (zx 64)) (fun (h11 : Zh) => zlt (zsR h11 a0 5 (some a26)) (fun (h12 : Zh) => zg (zok 8) (zlt (zN h12) (fun a27 => zlt (zA h12 21 (zx 8)) (fun (h13 : Zh) => zlt (zsR h13 a0 6 (some a27)) (fun (h14 : Zh) => zg (zok 8) (zlt (zN h14) (fun a28 => zlt (zA h14 21 (zx 8)) (fun (h15 : Zh) => zlt (zsR h15 a0 7 (some a28)) (fun (h16 : Zh) => zg (zok 8) (zlt (zN h16) (fun a29 => zlt (zA h16 21 (zx 8)) (fun (h17 : Zh) => zlt (zsR h17 a0 8 (some a29)) (fun (h18 : Zh) => some h18))))))))))))))))))))))))))))))))))))
set_option maxRecDepth 20000 in
theorem cX1_init_ok (l : Launch) (h : Zh) (a0 : Nat) : Zc l yX1_init mX1_init 0 h [(.ref a0, 1)] ((gX1_init h a0).map zoV) := by
  refine zc_of2 (ls := [some (.ref a0, 1)]) (j := 0) (by decide +kernel) rfl rfl (zEn_ca rfl) (Nat.le_of_ble_eq_true rfl) rfl ?_
  unfold gX1_init
  refine zr_aload_n (r := (some a0)) (eX1_init 0 rfl) rfl rfl ?_
  refine zr_objI ⟨zw_646, zw_80, zw_81⟩ ⟨Nat.le_of_ble_eq_true rfl, Nat.le_of_ble_eq_true rfl⟩ (Nat.le_of_ble_eq_true rfl) (eX1_init 1 rfl) ?_
  refine zr_aload_n (r := (some a0)) (eX1_init 2 rfl) rfl rfl ?_
  refine zr_bipush (eX1_init 3 rfl) zk_bipush_20 ?_
  refine zr_newi zw_154 (eX1_init 4 rfl) ?_
  refine zr_leta (fun a21 => ?_)
  refine v_leth (fun h1 => ?_)
  refine zr_putR (x := (some a21)) zf_RX1_11 (by decide) (fun _ h => h) (Or.inr ⟨rfl, rfl⟩) (eX1_init 5 rfl) ?_
  refine v_leth (fun h2 => ?_)
  refine zr_aload_n (r := (some a0)) (eX1_init 6 rfl) rfl rfl ?_
  refine zr_sipush (eX1_init 7 rfl) zk_sipush_400 ?_
  refine zr_newj zw_355 (eX1_init 8 rfl) ?_
  refine zr_leta (fun a22 => ?_)
  refine v_leth (fun h3 => ?_)
  refine zr_putR (x := (some a22)) zf_RX1_15 (by decide) (fun _ h => h) (Or.inr ⟨rfl, rfl⟩) (eX1_init 9 rfl) ?_
  refine v_leth (fun h4 => ?_)
  refine zr_aload_n (r := (some a0)) (eX1_init 10 rfl) rfl rfl ?_
  refine zr_sipush (eX1_init 11 rfl) zk_sipush_400 ?_
  refine zr_newj zw_355 (eX1_init 12 rfl) ?_
  refine zr_leta (fun a23 => ?_)
  refine v_leth (fun h5 => ?_)
  refine zr_putR (x := (some a23)) zf_RX1_19 (by decide) (fun _ h => h) (Or.inr ⟨rfl, rfl⟩) (eX1_init 13 rfl) ?_
  refine v_leth (fun h6 => ?_)
  refine zr_aload_n (r := (some a0)) (eX1_init 14 rfl) rfl rfl ?_
  refine zr_sipush (eX1_init 15 rfl) zk_sipush_400 ?_
  refine zr_newj zw_355 (eX1_init 16 rfl) ?_
  refine zr_leta (fun a24 => ?_)
  refine v_leth (fun h7 => ?_)
  refine zr_putR (x := (some a24)) zf_RX1_22 (by decide) (fun _ h => h) (Or.inr ⟨rfl, rfl⟩) (eX1_init 17 rfl) ?_
  refine v_leth (fun h8 => ?_)
  refine zr_aload_n (r := (some a0)) (eX1_init 18 rfl) rfl rfl ?_
  refine zr_sipush (eX1_init 19 rfl) zk_sipush_400 ?_
  refine zr_newj zw_355 (eX1_init 20 rfl) ?_
  refine zr_leta (fun a25 => ?_)
  refine v_leth (fun h9 => ?_)
  refine zr_putR (x := (some a25)) zf_RX1_25 (by decide) (fun _ h => h) (Or.inr ⟨rfl, rfl⟩) (eX1_init 21 rfl) ?_
  refine v_leth (fun h10 => ?_)
  refine zr_aload_n (r := (some a0)) (eX1_init 22 rfl) rfl rfl ?_
  refine zr_bipush (eX1_init 23 rfl) zk_bipush_64 ?_
  refine zr_newj zw_355 (eX1_init 24 rfl) ?_
  refine zr_leta (fun a26 => ?_)
  refine v_leth (fun h11 => ?_)
  refine zr_putR (x := (some a26)) zf_RX1_28 (by decide) (fun _ h => h) (Or.inr ⟨rfl, rfl⟩) (eX1_init 25 rfl) ?_
  refine v_leth (fun h12 => ?_)
  refine zr_aload_n (r := (some a0)) (eX1_init 26 rfl) rfl rfl ?_
  refine zr_bipush (eX1_init 27 rfl) zk_bipush_8 ?_
  refine zr_newj zw_355 (eX1_init 28 rfl) ?_
  refine zr_leta (fun a27 => ?_)
  refine v_leth (fun h13 => ?_)
  refine zr_putR (x := (some a27)) zf_RX1_31 (by decide) (fun _ h => h) (Or.inr ⟨rfl, rfl⟩) (eX1_init 29 rfl) ?_
  refine v_leth (fun h14 => ?_)
  refine zr_aload_n (r := (some a0)) (eX1_init 30 rfl) rfl rfl ?_
  refine zr_bipush (eX1_init 31 rfl) zk_bipush_8 ?_
  refine zr_newj zw_355 (eX1_init 32 rfl) ?_
  refine zr_leta (fun a28 => ?_)
  refine v_leth (fun h15 => ?_)
  refine zr_putR (x := (some a28)) zf_RX1_34 (by decide) (fun _ h => h) (Or.inr ⟨rfl, rfl⟩) (eX1_init 33 rfl) ?_
  refine v_leth (fun h16 => ?_)
  refine zr_aload_n (r := (some a0)) (eX1_init 34 rfl) rfl rfl ?_
  refine zr_bipush (eX1_init 35 rfl) zk_bipush_8 ?_
  refine zr_newj zw_355 (eX1_init 36 rfl) ?_
  refine zr_leta (fun a29 => ?_)
  refine v_leth (fun h17 => ?_)
  refine zr_putR (x := (some a29)) zf_RX1_37 (by decide) (fun _ h => h) (Or.inr ⟨rfl, rfl⟩) (eX1_init 37 rfl) ?_
  refine v_leth (fun h18 => ?_)
  exact zr_vret rfl rfl (eX1_init 38 rfl)
def gX4_crossing_J1 : Option (Int32) :=
  (some 0)
def gX4_crossing_J2 (h : Zh) (a0 : Nat) (x1 : Int32) (x2 : Int32) (x3 : Int32) (x4 : Int32) : Option (Int32) :=
  zjn gX4_crossing_J1 (fun (k21 : Option (Int32)) =>
  (if (x1 : Int32) = x4 then (if (x2 : Int32) = x3 then (some (zI h a0 3))
  else k21)
  else k21))
def gX4_crossing (h : Zh) (a0 : Nat) (x1 : Int32) (x2 : Int32) (x3 : Int32) (x4 : Int32) : Option (Int32) :=
  zjn (gX4_crossing_J2 h a0 x1 x2 x3 x4) (fun (k22 : Option (Int32)) =>
  (if (x1 : Int32) = x3 then (if (x2 : Int32) = x4 then (if (x1 : Int32) = x2 then (some (zI h a0 1))
  else (some (zI h a0 2)))
  else k22)
  else k22))
set_option maxRecDepth 20000 in
theorem cX4_crossing_ok (l : Launch) (h : Zh) (a0 : Nat) (x1 : Int32) (x2 : Int32) (x3 : Int32) (x4 : Int32) : Zc l yX4_crossing mX4_crossing 0 h [(.ref a0, 4), (.int x1, 0), (.int x2, 0), (.int x3, 0), (.int x4, 0)] ((gX4_crossing h a0 x1 x2 x3 x4).map (zoi h)) := by
  refine zc_of2 (ls := [some (.ref a0, 4), some (.int x1, 0), some (.int x2, 0), some (.int x3, 0), some (.int x4, 0)]) (j := 0) (by decide +kernel) rfl rfl (zEn_ca (zEn_ci (zEn_ci (zEn_ci (zEn_ci rfl))))) (Nat.le_of_ble_eq_true rfl) rfl ?_
  unfold gX4_crossing
  refine zr_iload_n (eX4_crossing 0 rfl) rfl rfl ?_
  refine zr_iload_n (eX4_crossing 1 rfl) rfl rfl ?_
  refine v_jn (fun (k22 : Option (Int32)) => V l mX4_crossing (zN h) (zS h) 0 (zoi h) 28 [some (.ref a0, 4), some (.int x1, 0), some (.int x2, 0), some (.int x3, 0), some (.int x4, 0)] [] h k22) ?_ ?_
  · skip
    unfold gX4_crossing_J2
    refine zr_iload_n (eX4_crossing 15 rfl) rfl rfl ?_
    refine zr_iload (eX4_crossing 16 rfl) rfl ?_
    refine v_jn (fun (k21 : Option (Int32)) => V l mX4_crossing (zN h) (zS h) 0 (zoi h) 46 [none, none, none, none, none] [] h k21) ?_ ?_
    · skip
      unfold gX4_crossing_J1
      refine zr_iconst (eX4_crossing 24 rfl) zk_iconst_0 ?_
      exact zr_iret rfl rfl (eX4_crossing 25 rfl)
    intro k21 hk21
    refine zr_icmp_ne (eX4_crossing 17 rfl) (t := 46) (by decide) ?_ ?_
    · exact v_drop [false, false, false, false, false] rfl (hk21)
    · refine zr_iload_n (eX4_crossing 18 rfl) rfl rfl ?_
      refine zr_iload_n (eX4_crossing 19 rfl) rfl rfl ?_
      refine zr_icmp_ne (eX4_crossing 20 rfl) (t := 46) (by decide) ?_ ?_
      · exact v_drop [false, false, false, false, false] rfl (hk21)
      · refine zr_aload_n (r := (some a0)) (eX4_crossing 21 rfl) rfl rfl ?_
        refine zr_getI zf_RX4_19 ⟨by decide, by decide⟩ (eX4_crossing 22 rfl) ?_
        refine zr_goto (eX4_crossing 23 rfl) (t := 47) (by decide) ?_
        exact zr_iret rfl rfl (eX4_crossing 25 rfl)
  intro k22 hk22
  refine zr_icmp_ne (eX4_crossing 2 rfl) (t := 28) (by decide) ?_ ?_
  · exact v_drop [true, true, true, true, true] rfl (hk22)
  · refine zr_iload_n (eX4_crossing 3 rfl) rfl rfl ?_
    refine zr_iload (eX4_crossing 4 rfl) rfl ?_
    refine zr_icmp_ne (eX4_crossing 5 rfl) (t := 28) (by decide) ?_ ?_
    · exact v_drop [true, true, true, true, true] rfl (hk22)
    · refine zr_iload_n (eX4_crossing 6 rfl) rfl rfl ?_
      refine zr_iload_n (eX4_crossing 7 rfl) rfl rfl ?_
      refine zr_icmp_ne (eX4_crossing 8 rfl) (t := 23) (by decide) ?_ ?_
      · refine zr_aload_n (r := (some a0)) (eX4_crossing 12 rfl) rfl rfl ?_
        refine zr_getI zf_RX4_16 ⟨by decide, by decide⟩ (eX4_crossing 13 rfl) ?_
        exact zr_iret rfl rfl (eX4_crossing 14 rfl)
      · refine zr_aload_n (r := (some a0)) (eX4_crossing 9 rfl) rfl rfl ?_
        refine zr_getI zf_RX4_13 ⟨by decide, by decide⟩ (eX4_crossing 10 rfl) ?_
        refine zr_goto (eX4_crossing 11 rfl) (t := 27) (by decide) ?_
        exact zr_iret rfl rfl (eX4_crossing 14 rfl)
def gX1_along_J1 (x5 : Int32) : Int64 → Int32 → Option (Int64) :=
  fun (x21 : Int64) (x22 : Int32) => (if (x22 : Int32) = x5 then (some x21)
  else (some 0))
def gX1_along_J2 (x24 : Int64) (x26 : Int32) (k27 : Int64 → Int32 → Int32 → Option (Int64)) (x30 : Int32) : Int32 → Option (Int64) :=
  fun (x32 : Int32) => zlt (x24 * ((x32 : Int32).toInt64)) (fun x33 => k27 x33 x30 (x26 + 1))
def gX1_along_L3 (h : Zh) (r0 : Option Nat) (x1 : Int32) (x2 : Int32) (x3 : Int32) (k23 : Int64 → Int32 → Option (Int64)) : (Int64 → Int32 → Int32 → Option (Int64)) → Int64 → Int32 → Int32 → Option (Int64) :=
  fun (k27 : Int64 → Int32 → Int32 → Option (Int64)) (x24 : Int64) (x25 : Int32) (x26 : Int32) => (if (x1 : Int32) ≤ x26 then k23 x24 x25
  else zlt ((x2 >>> (x26 &&& 31)) &&& 1) (fun x28 => zlt ((x3 >>> (x26 &&& 31)) &&& 1) (fun x29 => zlt ((x25 + x28) - x29) (fun x30 => (if (x30 : Int32) < 0 then (some 0)
  else (if (x30 : Int32) ≤ 1 then Option.bind r0 (fun a31 => zjn (gX1_along_J2 x24 x26 k27 x30) (fun (k34 : Int32 → Option (Int64)) =>
  zdp h a31 (zbi (gX4_crossing h a31 x25 x28 x30 x29) (fun b => k34 b)) (zbi (gX4_crossing h a31 x25 x28 x30 x29) (fun b => k34 b)) (zbi (gX4_crossing h a31 x25 x28 x30 x29) (fun b => k34 b))))
  else (some 0)))))))
def gX1_along (h : Zh) (r0 : Option Nat) (x1 : Int32) (x2 : Int32) (x3 : Int32) (x4 : Int32) (x5 : Int32) : Option (Int64) :=
  zjn (gX1_along_J1 x5) (fun (k23 : Int64 → Int32 → Option (Int64)) =>
  zlp (fun (_ : Int64) (_ : Int32) (_ : Int32) => (none : Option (Int64))) (gX1_along_L3 h r0 x1 x2 x3 k23) zFU 1 x4 0)
set_option maxRecDepth 20000 in
theorem cX1_along_ok (l : Launch) (h : Zh) (r0 : Option Nat) (x1 : Int32) (x2 : Int32) (x3 : Int32) (x4 : Int32) (x5 : Int32) : Zc l yX1_along mX1_along 0 h [(va_rf r0, 4), (.int x1, 0), (.int x2, 0), (.int x3, 0), (.int x4, 0), (.int x5, 0)] ((gX1_along h r0 x1 x2 x3 x4 x5).map (zoj h)) := by
  refine zc_of2 (ls := [some (va_rf r0, 4), some (.int x1, 0), some (.int x2, 0), some (.int x3, 0), some (.int x4, 0), some (.int x5, 0), none, none, none, none, none, none, none]) (j := 7) (by decide +kernel) rfl rfl (zEn_cr (zEn_ci (zEn_ci (zEn_ci (zEn_ci (zEn_ci rfl)))))) (Nat.le_of_ble_eq_true rfl) rfl ?_
  unfold gX1_along
  refine zr_lconst (eX1_along 0 rfl) zk_lconst_1 ?_
  refine zr_lstore (ls2 := [some (va_rf r0, 4), some (.int x1, 0), some (.int x2, 0), some (.int x3, 0), some (.int x4, 0), some (.int x5, 0), some (.long 1, 0), none, none, none, none, none, none]) (eX1_along 1 rfl) (Nat.le_of_ble_eq_true rfl) rfl ?_
  refine zr_iload (eX1_along 2 rfl) rfl ?_
  refine zr_istore (ls2 := [some (va_rf r0, 4), some (.int x1, 0), some (.int x2, 0), some (.int x3, 0), some (.int x4, 0), some (.int x5, 0), some (.long 1, 0), none, some (.int x4, 0), none, none, none, none]) (eX1_along 3 rfl) (Nat.le_of_ble_eq_true rfl) rfl ?_
  refine zr_iconst (eX1_along 4 rfl) zk_iconst_0 ?_
  refine zr_istore (ls2 := [some (va_rf r0, 4), some (.int x1, 0), some (.int x2, 0), some (.int x3, 0), some (.int x4, 0), some (.int x5, 0), some (.long 1, 0), none, some (.int x4, 0), some (.int 0, 0), none, none, none]) (eX1_along 5 rfl) (Nat.le_of_ble_eq_true rfl) rfl ?_
  refine v_jn (fun (k23 : Int64 → Int32 → Option (Int64)) => ∀ (x21 : Int64) (x22 : Int32), V l mX1_along (zN h) (zS h) 0 (zoj h) 83 [none, none, none, none, none, some (.int x5, 0), some (.long x21, 0), none, some (.int x22, 0), none, none, none, none] [] h (k23 x21 x22)) ?_ ?_
  · intro x21 x22
    unfold gX1_along_J1
    refine zr_iload (eX1_along 48 rfl) rfl ?_
    refine zr_iload (eX1_along 49 rfl) rfl ?_
    refine zr_icmp_ne (eX1_along 50 rfl) (t := 95) (by decide) ?_ ?_
    · refine zr_lconst (eX1_along 53 rfl) zk_lconst_0 ?_
      exact zr_lret rfl rfl (eX1_along 54 rfl)
    · refine zr_lload (eX1_along 51 rfl) rfl ?_
      refine zr_goto (eX1_along 52 rfl) (t := 96) (by decide) ?_
      exact zr_lret rfl rfl (eX1_along 54 rfl)
  intro k23 hk23
  refine v_drop [true, true, true, true, false, true, true, false, true, true, false, false, false] rfl ?_
  refine zlp_ind (fun (k27 : Int64 → Int32 → Int32 → Option (Int64)) => ∀ (x24 : Int64) (x25 : Int32) (x26 : Int32), V l mX1_along (zN h) (zS h) 0 (zoj h) 10 [some (va_rf r0, 4), some (.int x1, 0), some (.int x2, 0), some (.int x3, 0), none, some (.int x5, 0), some (.long x24, 0), none, some (.int x25, 0), some (.int x26, 0), none, none, none] [] h (k27 x24 x25 x26)) ?_ ?_ 1 x4 0
  · exact fun _ _ _ => v_none
  intro k27 hk27 x24 x25 x26
  unfold gX1_along_L3
  refine zr_iload (eX1_along 6 rfl) rfl ?_
  refine zr_iload_n (eX1_along 7 rfl) rfl rfl ?_
  refine zr_icmp_ge (eX1_along 8 rfl) (t := 83) (by decide) ?_ ?_
  · exact v_drop [false, false, false, false, false, true, true, false, true, false, false, false, false] rfl (hk23 x24 x25)
  · refine zr_iload_n (eX1_along 9 rfl) rfl rfl ?_
    refine zr_iload (eX1_along 10 rfl) rfl ?_
    refine zr_ishr (eX1_along 11 rfl) ?_
    refine zr_iconst (eX1_along 12 rfl) zk_iconst_1 ?_
    refine zr_iand (eX1_along 13 rfl) ?_
    refine v_leti (fun x28 => ?_)
    refine zr_istore (ls2 := [some (va_rf r0, 4), some (.int x1, 0), some (.int x2, 0), some (.int x3, 0), none, some (.int x5, 0), some (.long x24, 0), none, some (.int x25, 0), some (.int x26, 0), some (.int x28, 0), none, none]) (eX1_along 14 rfl) (Nat.le_of_ble_eq_true rfl) rfl ?_
    refine zr_iload_n (eX1_along 15 rfl) rfl rfl ?_
    refine zr_iload (eX1_along 16 rfl) rfl ?_
    refine zr_ishr (eX1_along 17 rfl) ?_
    refine zr_iconst (eX1_along 18 rfl) zk_iconst_1 ?_
    refine zr_iand (eX1_along 19 rfl) ?_
    refine v_leti (fun x29 => ?_)
    refine zr_istore (ls2 := [some (va_rf r0, 4), some (.int x1, 0), some (.int x2, 0), some (.int x3, 0), none, some (.int x5, 0), some (.long x24, 0), none, some (.int x25, 0), some (.int x26, 0), some (.int x28, 0), some (.int x29, 0), none]) (eX1_along 20 rfl) (Nat.le_of_ble_eq_true rfl) rfl ?_
    refine zr_iload (eX1_along 21 rfl) rfl ?_
    refine zr_iload (eX1_along 22 rfl) rfl ?_
    refine zr_iadd (eX1_along 23 rfl) ?_
    refine zr_iload (eX1_along 24 rfl) rfl ?_
    refine zr_isub (eX1_along 25 rfl) ?_
    refine v_leti (fun x30 => ?_)
    refine zr_istore (ls2 := [some (va_rf r0, 4), some (.int x1, 0), some (.int x2, 0), some (.int x3, 0), none, some (.int x5, 0), some (.long x24, 0), none, some (.int x25, 0), some (.int x26, 0), some (.int x28, 0), some (.int x29, 0), some (.int x30, 0)]) (eX1_along 26 rfl) (Nat.le_of_ble_eq_true rfl) rfl ?_
    refine zr_iload (eX1_along 27 rfl) rfl ?_
    refine zr_if_lt (eX1_along 28 rfl) (t := 53) (by decide) ?_ ?_
    · refine zr_lconst (eX1_along 32 rfl) zk_lconst_0 ?_
      exact zr_lret rfl rfl (eX1_along 33 rfl)
    · refine zr_iload (eX1_along 29 rfl) rfl ?_
      refine zr_iconst (eX1_along 30 rfl) zk_iconst_1 ?_
      refine zr_icmp_le (eX1_along 31 rfl) (t := 55) (by decide) ?_ ?_
      · refine zr_lload (eX1_along 34 rfl) rfl ?_
        refine zr_aload_n (r := r0) (eX1_along 35 rfl) rfl rfl ?_
        refine zr_iload (eX1_along 36 rfl) rfl ?_
        refine zr_iload (eX1_along 37 rfl) rfl ?_
        refine zr_iload (eX1_along 38 rfl) rfl ?_
        refine zr_iload (eX1_along 39 rfl) rfl ?_
        refine v_nn (fun a31 ea31 => ?_)
        subst ea31
        refine v_jn (fun (k34 : Int32 → Option (Int64)) => ∀ (x32 : Int32), V l mX1_along (zN h) (zS h) 0 (zoj h) 69 [some (.ref a31, 4), some (.int x1, 0), some (.int x2, 0), some (.int x3, 0), none, some (.int x5, 0), some (.long x24, 0), none, some (.int x25, 0), some (.int x26, 0), some (.int x28, 0), some (.int x29, 0), some (.int x30, 0)] [(.int x32, 0), (.long x24, 0)] h (k34 x32)) ?_ ?_
        · intro x32
          unfold gX1_along_J2
          refine zr_i2l (eX1_along 41 rfl) ?_
          refine zr_lmul (eX1_along 42 rfl) ?_
          refine v_letj (fun x33 => ?_)
          refine zr_lstore (ls2 := [some (.ref a31, 4), some (.int x1, 0), some (.int x2, 0), some (.int x3, 0), none, some (.int x5, 0), some (.long x33, 0), none, some (.int x25, 0), some (.int x26, 0), some (.int x28, 0), some (.int x29, 0), some (.int x30, 0)]) (eX1_along 43 rfl) (Nat.le_of_ble_eq_true rfl) rfl ?_
          refine zr_iload (eX1_along 44 rfl) rfl ?_
          refine zr_istore (ls2 := [some (.ref a31, 4), some (.int x1, 0), some (.int x2, 0), some (.int x3, 0), none, some (.int x5, 0), some (.long x33, 0), none, some (.int x30, 0), some (.int x26, 0), some (.int x28, 0), some (.int x29, 0), some (.int x30, 0)]) (eX1_along 45 rfl) (Nat.le_of_ble_eq_true rfl) rfl ?_
          refine zr_iinc (ls2 := [some (.ref a31, 4), some (.int x1, 0), some (.int x2, 0), some (.int x3, 0), none, some (.int x5, 0), some (.long x33, 0), none, some (.int x30, 0), some (.int (x26 + 1), 0), some (.int x28, 0), some (.int x29, 0), some (.int x30, 0)]) (eX1_along 46 rfl) rfl (Nat.le_of_ble_eq_true rfl) zk_iconst_1 rfl ?_
          refine zr_goto (eX1_along 47 rfl) (t := 10) (by decide) ?_
          exact v_drop [true, true, true, true, false, true, true, false, true, true, false, false, false] rfl (hk27 x33 x30 (x26 + 1))
        intro k34 hk34
        refine zr_dsp (fun qk => ?_) (fun qk => ?_) (fun qk => ?_)
        · exact zr_invU_i (x := yX4_crossing) (owner := RX4) (n := 4) (as := [(.int x25, 0), (.int x28, 0), (.int x30, 0), (.int x29, 0)]) qk (cX4_crossing_ok l h a31 x25 x28 x30 x29) rfl rfl (by decide) zw_632 ⟨by decide, by decide, by decide +kernel⟩ ⟨zw_626, zw_629, zw_627, zw_628, zw_627, zw_68⟩ zw_632 ⟨Nat.le_of_ble_eq_true rfl, Nat.le_of_ble_eq_true rfl⟩ rfl (Nat.le_of_ble_eq_true rfl) (eX1_along 40 rfl) (fun b => hk34 b)
        · exact zr_invU_i (x := yX4_crossing) (owner := RX4) (n := 4) (as := [(.int x25, 0), (.int x28, 0), (.int x30, 0), (.int x29, 0)]) qk (cX4_crossing_ok l h a31 x25 x28 x30 x29) rfl rfl (by decide) zw_632 ⟨by decide, by decide, by decide +kernel⟩ ⟨zw_626, zw_629, zw_627, zw_631, zw_627, zw_68⟩ zw_632 ⟨Nat.le_of_ble_eq_true rfl, Nat.le_of_ble_eq_true rfl⟩ rfl (Nat.le_of_ble_eq_true rfl) (eX1_along 40 rfl) (fun b => hk34 b)
        · exact zr_invU_i (x := yX4_crossing) (owner := RX4) (n := 4) (as := [(.int x25, 0), (.int x28, 0), (.int x30, 0), (.int x29, 0)]) qk (cX4_crossing_ok l h a31 x25 x28 x30 x29) rfl rfl (by decide) zw_632 ⟨by decide, by decide, by decide +kernel⟩ ⟨zw_626, zw_629, zw_627, zw_630, zw_627, zw_68⟩ zw_632 ⟨Nat.le_of_ble_eq_true rfl, Nat.le_of_ble_eq_true rfl⟩ rfl (Nat.le_of_ble_eq_true rfl) (eX1_along 40 rfl) (fun b => hk34 b)
      · refine zr_lconst (eX1_along 32 rfl) zk_lconst_0 ?_
        exact zr_lret rfl rfl (eX1_along 33 rfl)
def gX1_around (h : Zh) (r0 : Option Nat) (x1 : Int32) (x2 : Int32) (x3 : Int32) : Option (Int64) :=
  zbj (gX1_along h r0 x1 x2 x3 0 0) (fun x21 => zbj (gX1_along h r0 x1 x2 x3 1 1) (fun x22 => (some (x21 + x22))))
set_option maxRecDepth 20000 in
theorem cX1_around_ok (l : Launch) (h : Zh) (r0 : Option Nat) (x1 : Int32) (x2 : Int32) (x3 : Int32) : Zc l yX1_around mX1_around 0 h [(va_rf r0, 4), (.int x1, 0), (.int x2, 0), (.int x3, 0)] ((gX1_around h r0 x1 x2 x3).map (zoj h)) := by
  refine zc_of2 (ls := [some (va_rf r0, 4), some (.int x1, 0), some (.int x2, 0), some (.int x3, 0)]) (j := 0) (by decide +kernel) rfl rfl (zEn_cr (zEn_ci (zEn_ci (zEn_ci rfl)))) (Nat.le_of_ble_eq_true rfl) rfl ?_
  unfold gX1_around
  refine zr_aload_n (r := r0) (eX1_around 0 rfl) rfl rfl ?_
  refine zr_iload_n (eX1_around 1 rfl) rfl rfl ?_
  refine zr_iload_n (eX1_around 2 rfl) rfl rfl ?_
  refine zr_iload_n (eX1_around 3 rfl) rfl rfl ?_
  refine zr_iconst (eX1_around 4 rfl) zk_iconst_0 ?_
  refine zr_iconst (eX1_around 5 rfl) zk_iconst_0 ?_
  refine zr_invS_j (as := [(va_rf r0, 4), (.int x1, 0), (.int x2, 0), (.int x3, 0), (.int 0, 0), (.int 0, 0)]) (cX1_along_ok l h r0 x1 x2 x3 0 0) rfl zcd_X1_along ⟨zw_623, zw_624, zw_71⟩ ⟨Nat.le_of_ble_eq_true rfl, Nat.le_of_ble_eq_true rfl⟩ rfl (Nat.le_of_ble_eq_true rfl) (eX1_around 6 rfl) (fun x21 => ?_)
  refine zr_aload_n (r := r0) (eX1_around 7 rfl) rfl rfl ?_
  refine zr_iload_n (eX1_around 8 rfl) rfl rfl ?_
  refine zr_iload_n (eX1_around 9 rfl) rfl rfl ?_
  refine zr_iload_n (eX1_around 10 rfl) rfl rfl ?_
  refine zr_iconst (eX1_around 11 rfl) zk_iconst_1 ?_
  refine zr_iconst (eX1_around 12 rfl) zk_iconst_1 ?_
  refine zr_invS_j (as := [(va_rf r0, 4), (.int x1, 0), (.int x2, 0), (.int x3, 0), (.int 1, 0), (.int 1, 0)]) (cX1_along_ok l h r0 x1 x2 x3 1 1) rfl zcd_X1_along ⟨zw_623, zw_624, zw_71⟩ ⟨Nat.le_of_ble_eq_true rfl, Nat.le_of_ble_eq_true rfl⟩ rfl (Nat.le_of_ble_eq_true rfl) (eX1_around 13 rfl) (fun x22 => ?_)
  refine zr_ladd (eX1_around 14 rfl) ?_
  exact zr_lret rfl rfl (eX1_around 15 rfl)
def gX1_gather_J1 (x22 : Int32) (k23 : Int32 → Int32 → Zh → Option (Int32 × Zh)) : Int32 → Zh → Option (Int32 × Zh) :=
  fun (x25 : Int32) (h2 : Zh) => k23 x25 (x22 + 1) h2
def gX1_gather_L2 (a0 : Nat) (x1 : Int32) (x2 : Int32) : (Int32 → Int32 → Zh → Option (Int32 × Zh)) → Int32 → Int32 → Zh → Option (Int32 × Zh) :=
  fun (k23 : Int32 → Int32 → Zh → Option (Int32 × Zh)) (x21 : Int32) (x22 : Int32) (h1 : Zh) => (if (((1 : Int32) <<< (x1 &&& 31)) : Int32) ≤ x22 then (some (x21, h1))
  else zbi (gJ6_bitCount_0f7a4 x22) (fun x24 => zjn (gX1_gather_J1 x22 k23) (fun (k26 : Int32 → Zh → Option (Int32 × Zh)) =>
  (if (x24 : Int32) = x2 then (if (20 : Int32) ≤ x21 then k26 x21 h1
  else zlt (zR h1 a0 0) (fun r27 => Option.bind r27 (fun a28 => zg (zin x21 (zL h1 a28)) (zlt (zsI h1 a28 (zx x21) x22) (fun (h3 : Zh) => k26 (x21 + 1) h3)))))
  else k26 x21 h1))))
def gX1_gather (h : Zh) (a0 : Nat) (x1 : Int32) (x2 : Int32) : Option (Int32 × Zh) :=
  zlp (fun (_ : Int32) (_ : Int32) (_ : Zh) => (none : Option (Int32 × Zh))) (gX1_gather_L2 a0 x1 x2) zFU 0 0 h
set_option maxRecDepth 20000 in
theorem cX1_gather_ok (l : Launch) (h : Zh) (a0 : Nat) (x1 : Int32) (x2 : Int32) : Zc l yX1_gather mX1_gather 0 h [(.ref a0, 1), (.int x1, 0), (.int x2, 0)] ((gX1_gather h a0 x1 x2).map zoI) := by
  refine zc_of2 (ls := [some (.ref a0, 1), some (.int x1, 0), some (.int x2, 0), none, none]) (j := 2) (by decide +kernel) rfl rfl (zEn_ca (zEn_ci (zEn_ci rfl))) (Nat.le_of_ble_eq_true rfl) rfl ?_
  unfold gX1_gather
  refine zr_iconst (eX1_gather 0 rfl) zk_iconst_0 ?_
  refine zr_istore_n (ls2 := [some (.ref a0, 1), some (.int x1, 0), some (.int x2, 0), some (.int 0, 0), none]) (eX1_gather 1 rfl) rfl (Nat.le_of_ble_eq_true rfl) rfl ?_
  refine zr_iconst (eX1_gather 2 rfl) zk_iconst_0 ?_
  refine zr_istore (ls2 := [some (.ref a0, 1), some (.int x1, 0), some (.int x2, 0), some (.int 0, 0), some (.int 0, 0)]) (eX1_gather 3 rfl) (Nat.le_of_ble_eq_true rfl) rfl ?_
  refine v_drop [true, true, true, true, true] rfl ?_
  refine zlp_ind (fun (k23 : Int32 → Int32 → Zh → Option (Int32 × Zh)) => ∀ (x21 : Int32) (x22 : Int32) (h1 : Zh), V l mX1_gather (zN h) (zS h) 0 zoI 5 [some (.ref a0, 1), some (.int x1, 0), some (.int x2, 0), some (.int x21, 0), some (.int x22, 0)] [] h1 (k23 x21 x22 h1)) ?_ ?_ 0 0 h
  · exact fun _ _ _ => v_none
  intro k23 hk23 x21 x22 h1
  unfold gX1_gather_L2
  refine zr_iload (eX1_gather 4 rfl) rfl ?_
  refine zr_iconst (eX1_gather 5 rfl) zk_iconst_1 ?_
  refine zr_iload_n (eX1_gather 6 rfl) rfl rfl ?_
  refine zr_ishl (eX1_gather 7 rfl) ?_
  refine zr_icmp_ge (eX1_gather 8 rfl) (t := 45) (by decide) ?_ ?_
  · refine zr_iload_n (eX1_gather 24 rfl) rfl rfl ?_
    exact zr_iret rfl rfl (eX1_gather 25 rfl)
  · refine zr_iload (eX1_gather 9 rfl) rfl ?_
    refine zr_invS_i (as := [(.int x22, 0)]) (cJ6_bitCount_0f7a4_ok l h1 x22) rfl zcd_J6_bitCount_0f7a4 ⟨zw_683, zw_252, zw_63⟩ ⟨Nat.le_of_ble_eq_true rfl, Nat.le_of_ble_eq_true rfl⟩ rfl (Nat.le_of_ble_eq_true rfl) (eX1_gather 10 rfl) (fun x24 => ?_)
    refine zr_iload_n (eX1_gather 11 rfl) rfl rfl ?_
    refine v_jn (fun (k26 : Int32 → Zh → Option (Int32 × Zh)) => ∀ (x25 : Int32) (h2 : Zh), V l mX1_gather (zN h) (zS h) 0 zoI 39 [some (.ref a0, 1), some (.int x1, 0), some (.int x2, 0), some (.int x25, 0), some (.int x22, 0)] [] h2 (k26 x25 h2)) ?_ ?_
    · intro x25 h2
      unfold gX1_gather_J1
      refine zr_iinc (ls2 := [some (.ref a0, 1), some (.int x1, 0), some (.int x2, 0), some (.int x25, 0), some (.int (x22 + 1), 0)]) (eX1_gather 22 rfl) rfl (Nat.le_of_ble_eq_true rfl) zk_iconst_1 rfl ?_
      refine zr_goto (eX1_gather 23 rfl) (t := 5) (by decide) ?_
      exact v_drop [true, true, true, true, true] rfl (hk23 x25 (x22 + 1) h2)
    intro k26 hk26
    refine zr_icmp_ne (eX1_gather 12 rfl) (t := 39) (by decide) ?_ ?_
    · exact v_drop [true, true, true, true, true] rfl (hk26 x21 h1)
    · refine zr_iload_n (eX1_gather 13 rfl) rfl rfl ?_
      refine zr_bipush (eX1_gather 14 rfl) zk_bipush_20 ?_
      refine zr_icmp_ge (eX1_gather 15 rfl) (t := 39) (by decide) ?_ ?_
      · exact v_drop [true, true, true, true, true] rfl (hk26 x21 h1)
      · refine zr_aload_n (r := (some a0)) (eX1_gather 16 rfl) rfl rfl ?_
        refine zr_getR2 zf_RX1_11 (τ2 := 20) rfl (eX1_gather 17 rfl) ?_
        refine v_letr (fun r27 => ?_)
        refine zr_iload_n (eX1_gather 18 rfl) rfl rfl ?_
        refine zr_iload (eX1_gather 19 rfl) rfl ?_
        refine v_nn (fun a28 ea28 => ?_)
        subst ea28
        refine zr_iast (eX1_gather 20 rfl) ?_
        refine v_leth (fun h3 => ?_)
        refine zr_iinc (ls2 := [some (.ref a0, 1), some (.int x1, 0), some (.int x2, 0), some (.int (x21 + 1), 0), some (.int x22, 0)]) (eX1_gather 21 rfl) rfl (Nat.le_of_ble_eq_true rfl) zk_iconst_1 rfl ?_
        exact v_drop [true, true, true, true, true] rfl (hk26 (x21 + 1) h3)
def gX1_fillBlock_J1 (x21 : Int32) (k22 : Int32 → Zh → Option (Zh)) : Zh → Option (Zh) :=
  fun (h2 : Zh) => k22 (x21 + 1) h2
def gX1_fillBlock_L2 (a0 : Nat) (r1 : Option Nat) (x2 : Int32) (x3 : Int32) (r4 : Option Nat) (x21 : Int32) (k23 : Zh → Option (Zh)) : (Int32 → Zh → Option (Zh)) → Int32 → Zh → Option (Zh) :=
  fun (k25 : Int32 → Zh → Option (Zh)) (x24 : Int32) (h3 : Zh) => (if (x3 : Int32) ≤ x24 then k23 h3
  else zlt (zR h3 a0 0) (fun r26 => Option.bind r26 (fun a27 => zg (zin x21 (zL h3 a27)) (zlt (zR h3 a0 0) (fun r28 => Option.bind r28 (fun a29 => zg (zin x24 (zL h3 a29)) (zbj (gX1_around h3 r1 x2 (zI h3 a27 (zx x21)) (zI h3 a29 (zx x24))) (fun x30 => Option.bind r4 (fun a31 => zg (zin ((x21 * 20) + x24) (zL h3 a31)) (zlt (zsJ h3 a31 (zx ((x21 * 20) + x24)) x30) (fun (h4 : Zh) => k25 (x24 + 1) h4)))))))))))
def gX1_fillBlock_L3 (a0 : Nat) (r1 : Option Nat) (x2 : Int32) (x3 : Int32) (r4 : Option Nat) : (Int32 → Zh → Option (Zh)) → Int32 → Zh → Option (Zh) :=
  fun (k22 : Int32 → Zh → Option (Zh)) (x21 : Int32) (h1 : Zh) => (if (x3 : Int32) ≤ x21 then some h1
  else zjn (gX1_fillBlock_J1 x21 k22) (fun (k23 : Zh → Option (Zh)) =>
  zlp (fun (_ : Int32) (_ : Zh) => (none : Option (Zh))) (gX1_fillBlock_L2 a0 r1 x2 x3 r4 x21 k23) zFU 0 h1))
def gX1_fillBlock (h : Zh) (a0 : Nat) (r1 : Option Nat) (x2 : Int32) (x3 : Int32) (r4 : Option Nat) : Option (Zh) :=
  zlp (fun (_ : Int32) (_ : Zh) => (none : Option (Zh))) (gX1_fillBlock_L3 a0 r1 x2 x3 r4) zFU 0 h
set_option maxRecDepth 20000 in
theorem cX1_fillBlock_ok (l : Launch) (h : Zh) (a0 : Nat) (r1 : Option Nat) (x2 : Int32) (x3 : Int32) (r4 : Option Nat) : Zc l yX1_fillBlock mX1_fillBlock 0 h [(.ref a0, 1), (va_rf r1, 4), (.int x2, 0), (.int x3, 0), (va_rf r4, 21)] ((gX1_fillBlock h a0 r1 x2 x3 r4).map zoV) := by
  refine zc_of2 (ls := [some (.ref a0, 1), some (va_rf r1, 4), some (.int x2, 0), some (.int x3, 0), some (va_rf r4, 21), none, none]) (j := 2) (by decide +kernel) rfl rfl (zEn_ca (zEn_cr (zEn_ci (zEn_ci (zEn_cr rfl))))) (Nat.le_of_ble_eq_true rfl) rfl ?_
  unfold gX1_fillBlock
  refine zr_iconst (eX1_fillBlock 0 rfl) zk_iconst_0 ?_
  refine zr_istore (ls2 := [some (.ref a0, 1), some (va_rf r1, 4), some (.int x2, 0), some (.int x3, 0), some (va_rf r4, 21), some (.int 0, 0), none]) (eX1_fillBlock 1 rfl) (Nat.le_of_ble_eq_true rfl) (by simp only [zst1, zst2, zcl_rf]) ?_
  refine v_drop [true, true, true, true, true, true, false] rfl ?_
  refine zlp_ind (fun (k22 : Int32 → Zh → Option (Zh)) => ∀ (x21 : Int32) (h1 : Zh), V l mX1_fillBlock (zN h) (zS h) 0 zoV 3 [some (.ref a0, 1), some (va_rf r1, 4), some (.int x2, 0), some (.int x3, 0), some (va_rf r4, 21), some (.int x21, 0), none] [] h1 (k22 x21 h1)) ?_ ?_ 0 h
  · exact fun _ _ => v_none
  intro k22 hk22 x21 h1
  unfold gX1_fillBlock_L3
  refine zr_iload (eX1_fillBlock 2 rfl) rfl ?_
  refine zr_iload_n (eX1_fillBlock 3 rfl) rfl rfl ?_
  refine zr_icmp_ge (eX1_fillBlock 4 rfl) (t := 60) (by decide) ?_ ?_
  · exact zr_vret rfl rfl (eX1_fillBlock 32 rfl)
  · refine zr_iconst (eX1_fillBlock 5 rfl) zk_iconst_0 ?_
    refine zr_istore (ls2 := [some (.ref a0, 1), some (va_rf r1, 4), some (.int x2, 0), some (.int x3, 0), some (va_rf r4, 21), some (.int x21, 0), some (.int 0, 0)]) (eX1_fillBlock 6 rfl) (Nat.le_of_ble_eq_true rfl) rfl ?_
    refine v_jn (fun (k23 : Zh → Option (Zh)) => ∀ (h2 : Zh), V l mX1_fillBlock (zN h) (zS h) 0 zoV 54 [some (.ref a0, 1), some (va_rf r1, 4), some (.int x2, 0), some (.int x3, 0), some (va_rf r4, 21), some (.int x21, 0), none] [] h2 (k23 h2)) ?_ ?_
    · intro h2
      unfold gX1_fillBlock_J1
      refine zr_iinc (ls2 := [some (.ref a0, 1), some (va_rf r1, 4), some (.int x2, 0), some (.int x3, 0), some (va_rf r4, 21), some (.int (x21 + 1), 0), none]) (eX1_fillBlock 30 rfl) rfl (Nat.le_of_ble_eq_true rfl) zk_iconst_1 (by simp only [zst1, zst2, zcl_rf]) ?_
      refine zr_goto (eX1_fillBlock 31 rfl) (t := 3) (by decide) ?_
      exact v_drop [true, true, true, true, true, true, false] rfl (hk22 (x21 + 1) h2)
    intro k23 hk23
    refine v_drop [true, true, true, true, true, true, true] rfl ?_
    refine zlp_ind (fun (k25 : Int32 → Zh → Option (Zh)) => ∀ (x24 : Int32) (h3 : Zh), V l mX1_fillBlock (zN h) (zS h) 0 zoV 12 [some (.ref a0, 1), some (va_rf r1, 4), some (.int x2, 0), some (.int x3, 0), some (va_rf r4, 21), some (.int x21, 0), some (.int x24, 0)] [] h3 (k25 x24 h3)) ?_ ?_ 0 h1
    · exact fun _ _ => v_none
    intro k25 hk25 x24 h3
    unfold gX1_fillBlock_L2
    refine zr_iload (eX1_fillBlock 7 rfl) rfl ?_
    refine zr_iload_n (eX1_fillBlock 8 rfl) rfl rfl ?_
    refine zr_icmp_ge (eX1_fillBlock 9 rfl) (t := 54) (by decide) ?_ ?_
    · exact v_drop [true, true, true, true, true, true, false] rfl (hk23 h3)
    · refine zr_aload (r := r4) (eX1_fillBlock 10 rfl) rfl ?_
      refine zr_iload (eX1_fillBlock 11 rfl) rfl ?_
      refine zr_bipush (eX1_fillBlock 12 rfl) zk_bipush_20 ?_
      refine zr_imul (eX1_fillBlock 13 rfl) ?_
      refine zr_iload (eX1_fillBlock 14 rfl) rfl ?_
      refine zr_iadd (eX1_fillBlock 15 rfl) ?_
      refine zr_aload_n (r := r1) (eX1_fillBlock 16 rfl) rfl rfl ?_
      refine zr_iload_n (eX1_fillBlock 17 rfl) rfl rfl ?_
      refine zr_aload_n (r := (some a0)) (eX1_fillBlock 18 rfl) rfl rfl ?_
      refine zr_getR2 zf_RX1_11 (τ2 := 20) rfl (eX1_fillBlock 19 rfl) ?_
      refine v_letr (fun r26 => ?_)
      refine zr_iload (eX1_fillBlock 20 rfl) rfl ?_
      refine v_nn (fun a27 ea27 => ?_)
      subst ea27
      refine zr_iald (eX1_fillBlock 21 rfl) ?_
      refine zr_aload_n (r := (some a0)) (eX1_fillBlock 22 rfl) rfl rfl ?_
      refine zr_getR2 zf_RX1_11 (τ2 := 20) rfl (eX1_fillBlock 23 rfl) ?_
      refine v_letr (fun r28 => ?_)
      refine zr_iload (eX1_fillBlock 24 rfl) rfl ?_
      refine v_nn (fun a29 ea29 => ?_)
      subst ea29
      refine zr_iald (eX1_fillBlock 25 rfl) ?_
      refine zr_invS_j (as := [(va_rf r1, 4), (.int x2, 0), (.int (zI h3 a27 (zx x21)), 0), (.int (zI h3 a29 (zx x24)), 0)]) (cX1_around_ok l h3 r1 x2 (zI h3 a27 (zx x21)) (zI h3 a29 (zx x24))) rfl zcd_X1_around ⟨zw_688, zw_621, zw_71⟩ ⟨Nat.le_of_ble_eq_true rfl, Nat.le_of_ble_eq_true rfl⟩ rfl (Nat.le_of_ble_eq_true rfl) (eX1_fillBlock 26 rfl) (fun x30 => ?_)
      refine v_nn (fun a31 ea31 => ?_)
      subst ea31
      refine zr_last (eX1_fillBlock 27 rfl) ?_
      refine v_leth (fun h4 => ?_)
      refine zr_iinc (ls2 := [some (.ref a0, 1), some (va_rf r1, 4), some (.int x2, 0), some (.int x3, 0), some (.ref a31, 21), some (.int x21, 0), some (.int (x24 + 1), 0)]) (eX1_fillBlock 28 rfl) rfl (Nat.le_of_ble_eq_true rfl) zk_iconst_1 rfl ?_
      refine zr_goto (eX1_fillBlock 29 rfl) (t := 12) (by decide) ?_
      exact v_drop [true, true, true, true, true, true, true] rfl (hk25 (x24 + 1) h4)
def gX1_timesCounted (x0 : Int32) (x1 : Int32) : Option (Int32) :=
  (if ((2 * x1) : Int32) = x0 then (some 1)
  else (some 2))
set_option maxRecDepth 20000 in
theorem cX1_timesCounted_ok (l : Launch) (h : Zh) (x0 : Int32) (x1 : Int32) : Zc l yX1_timesCounted mX1_timesCounted 0 h [(.int x0, 0), (.int x1, 0)] ((gX1_timesCounted x0 x1).map (zoi h)) := by
  refine zc_of2 (ls := [some (.int x0, 0), some (.int x1, 0)]) (j := 0) (by decide +kernel) rfl rfl (zEn_ci (zEn_ci rfl)) (Nat.le_of_ble_eq_true rfl) rfl ?_
  unfold gX1_timesCounted
  refine zr_iconst (eX1_timesCounted 0 rfl) zk_iconst_2 ?_
  refine zr_iload_n (eX1_timesCounted 1 rfl) rfl rfl ?_
  refine zr_imul (eX1_timesCounted 2 rfl) ?_
  refine zr_iload_n (eX1_timesCounted 3 rfl) rfl rfl ?_
  refine zr_icmp_ne (eX1_timesCounted 4 rfl) (t := 11) (by decide) ?_ ?_
  · refine zr_iconst (eX1_timesCounted 7 rfl) zk_iconst_2 ?_
    exact zr_iret rfl rfl (eX1_timesCounted 8 rfl)
  · refine zr_iconst (eX1_timesCounted 5 rfl) zk_iconst_1 ?_
    refine zr_goto (eX1_timesCounted 6 rfl) (t := 12) (by decide) ?_
    exact zr_iret rfl rfl (eX1_timesCounted 8 rfl)
def gX1_product_L1 (h : Zh) (r0 : Option Nat) (r1 : Option Nat) (x2 : Int32) (x3 : Int32) (x4 : Int32) : (Int64 → Int32 → Option (Int64)) → Int64 → Int32 → Option (Int64) :=
  fun (k23 : Int64 → Int32 → Option (Int64)) (x21 : Int64) (x22 : Int32) => (if (x2 : Int32) ≤ x22 then (some x21)
  else Option.bind r0 (fun a24 => zg (zin ((x3 * 20) + x22) (zL h a24)) (Option.bind r1 (fun a25 => zg (zin ((x22 * 20) + x4) (zL h a25)) (zlt (x21 + ((zJ h a24 (zx ((x3 * 20) + x22))) * (zJ h a25 (zx ((x22 * 20) + x4))))) (fun x26 => k23 x26 (x22 + 1)))))))
def gX1_product (h : Zh) (r0 : Option Nat) (r1 : Option Nat) (x2 : Int32) (x3 : Int32) (x4 : Int32) : Option (Int64) :=
  zlp (fun (_ : Int64) (_ : Int32) => (none : Option (Int64))) (gX1_product_L1 h r0 r1 x2 x3 x4) zFU 0 0
set_option maxRecDepth 20000 in
theorem cX1_product_ok (l : Launch) (h : Zh) (r0 : Option Nat) (r1 : Option Nat) (x2 : Int32) (x3 : Int32) (x4 : Int32) : Zc l yX1_product mX1_product 0 h [(va_rf r0, 21), (va_rf r1, 21), (.int x2, 0), (.int x3, 0), (.int x4, 0)] ((gX1_product h r0 r1 x2 x3 x4).map (zoj h)) := by
  refine zc_of2 (ls := [some (va_rf r0, 21), some (va_rf r1, 21), some (.int x2, 0), some (.int x3, 0), some (.int x4, 0), none, none, none]) (j := 3) (by decide +kernel) rfl rfl (zEn_cr (zEn_cr (zEn_ci (zEn_ci (zEn_ci rfl))))) (Nat.le_of_ble_eq_true rfl) rfl ?_
  unfold gX1_product
  refine zr_lconst (eX1_product 0 rfl) zk_lconst_0 ?_
  refine zr_lstore (ls2 := [some (va_rf r0, 21), some (va_rf r1, 21), some (.int x2, 0), some (.int x3, 0), some (.int x4, 0), some (.long 0, 0), none, none]) (eX1_product 1 rfl) (Nat.le_of_ble_eq_true rfl) rfl ?_
  refine zr_iconst (eX1_product 2 rfl) zk_iconst_0 ?_
  refine zr_istore (ls2 := [some (va_rf r0, 21), some (va_rf r1, 21), some (.int x2, 0), some (.int x3, 0), some (.int x4, 0), some (.long 0, 0), none, some (.int 0, 0)]) (eX1_product 3 rfl) (Nat.le_of_ble_eq_true rfl) rfl ?_
  refine v_drop [true, true, true, true, true, true, false, true] rfl ?_
  refine zlp_ind (fun (k23 : Int64 → Int32 → Option (Int64)) => ∀ (x21 : Int64) (x22 : Int32), V l mX1_product (zN h) (zS h) 0 (zoj h) 6 [some (va_rf r0, 21), some (va_rf r1, 21), some (.int x2, 0), some (.int x3, 0), some (.int x4, 0), some (.long x21, 0), none, some (.int x22, 0)] [] h (k23 x21 x22)) ?_ ?_ 0 0
  · exact fun _ _ => v_none
  intro k23 hk23 x21 x22
  unfold gX1_product_L1
  refine zr_iload (eX1_product 4 rfl) rfl ?_
  refine zr_iload_n (eX1_product 5 rfl) rfl rfl ?_
  refine zr_icmp_ge (eX1_product 6 rfl) (t := 43) (by decide) ?_ ?_
  · refine zr_lload (eX1_product 27 rfl) rfl ?_
    exact zr_lret rfl rfl (eX1_product 28 rfl)
  · refine zr_lload (eX1_product 7 rfl) rfl ?_
    refine zr_aload_n (r := r0) (eX1_product 8 rfl) rfl rfl ?_
    refine zr_iload_n (eX1_product 9 rfl) rfl rfl ?_
    refine zr_bipush (eX1_product 10 rfl) zk_bipush_20 ?_
    refine zr_imul (eX1_product 11 rfl) ?_
    refine zr_iload (eX1_product 12 rfl) rfl ?_
    refine zr_iadd (eX1_product 13 rfl) ?_
    refine v_nn (fun a24 ea24 => ?_)
    subst ea24
    refine zr_lald (eX1_product 14 rfl) ?_
    refine zr_aload_n (r := r1) (eX1_product 15 rfl) rfl rfl ?_
    refine zr_iload (eX1_product 16 rfl) rfl ?_
    refine zr_bipush (eX1_product 17 rfl) zk_bipush_20 ?_
    refine zr_imul (eX1_product 18 rfl) ?_
    refine zr_iload (eX1_product 19 rfl) rfl ?_
    refine zr_iadd (eX1_product 20 rfl) ?_
    refine v_nn (fun a25 ea25 => ?_)
    subst ea25
    refine zr_lald (eX1_product 21 rfl) ?_
    refine zr_lmul (eX1_product 22 rfl) ?_
    refine zr_ladd (eX1_product 23 rfl) ?_
    refine v_letj (fun x26 => ?_)
    refine zr_lstore (ls2 := [some (.ref a24, 21), some (.ref a25, 21), some (.int x2, 0), some (.int x3, 0), some (.int x4, 0), some (.long x26, 0), none, some (.int x22, 0)]) (eX1_product 24 rfl) (Nat.le_of_ble_eq_true rfl) rfl ?_
    refine zr_iinc (ls2 := [some (.ref a24, 21), some (.ref a25, 21), some (.int x2, 0), some (.int x3, 0), some (.int x4, 0), some (.long x26, 0), none, some (.int (x22 + 1), 0)]) (eX1_product 25 rfl) rfl (Nat.le_of_ble_eq_true rfl) zk_iconst_1 rfl ?_
    refine zr_goto (eX1_product 26 rfl) (t := 6) (by decide) ?_
    exact v_drop [true, true, true, true, true, true, false, true] rfl (hk23 x26 (x22 + 1))
def gX1_countUnlike_J1 (x3 : Int32) (x21 : Int32) (x22 : Int32) (k23 : Int32 → Int32 → Zh → Option (Int32 × Zh)) (h4 : Zh) : Int32 → Option (Int32 × Zh) :=
  fun (x27 : Int32) => zbi (gX1_timesCounted x3 x22) (fun x28 => zlt (x21 + (x28 * x27)) (fun x29 => k23 x29 (x22 + 1) h4))
def gX1_countUnlike_J2 (x32 : Int32) (k33 : Int32 → Int32 → Option (Int32 × Zh)) : Int32 → Option (Int32 × Zh) :=
  fun (x34 : Int32) => k33 x34 (x32 + 1)
def gX1_countUnlike_J3 (x37 : Int32) (k38 : Int32 → Int32 → Option (Int32 × Zh)) : Int32 → Option (Int32 × Zh) :=
  fun (x45 : Int32) => k38 x45 (x37 + 1)
def gX1_countUnlike_L4 (a0 : Nat) (x24 : Int32) (h4 : Zh) (x32 : Int32) (k35 : Int32 → Option (Int32 × Zh)) : (Int32 → Int32 → Option (Int32 × Zh)) → Int32 → Int32 → Option (Int32 × Zh) :=
  fun (k38 : Int32 → Int32 → Option (Int32 × Zh)) (x36 : Int32) (x37 : Int32) => (if (x24 : Int32) ≤ x37 then k35 x36
  else zlt (zR h4 a0 1) (fun r39 => zlt (zR h4 a0 2) (fun r40 => zbj (gX1_product h4 r39 r40 x24 x32 x37) (fun x41 => zlt (zR h4 a0 2) (fun r42 => zlt (zR h4 a0 1) (fun r43 => zbj (gX1_product h4 r42 r43 x24 x32 x37) (fun x44 => zjn (gX1_countUnlike_J3 x37 k38) (fun (k46 : Int32 → Option (Int32 × Zh)) =>
  (if ((lg_cmp x41 x44) : Int32) = 0 then k46 x36
  else k46 (x36 + 1))))))))))
def gX1_countUnlike_L5 (a0 : Nat) (x24 : Int32) (h4 : Zh) (k30 : Int32 → Option (Int32 × Zh)) : (Int32 → Int32 → Option (Int32 × Zh)) → Int32 → Int32 → Option (Int32 × Zh) :=
  fun (k33 : Int32 → Int32 → Option (Int32 × Zh)) (x31 : Int32) (x32 : Int32) => (if (x24 : Int32) ≤ x32 then k30 x31
  else zjn (gX1_countUnlike_J2 x32 k33) (fun (k35 : Int32 → Option (Int32 × Zh)) =>
  zlp (fun (_ : Int32) (_ : Int32) => (none : Option (Int32 × Zh))) (gX1_countUnlike_L4 a0 x24 h4 x32 k35) zFU x31 0))
def gX1_countUnlike_L6 (a0 : Nat) (r1 : Option Nat) (r2 : Option Nat) (x3 : Int32) : (Int32 → Int32 → Zh → Option (Int32 × Zh)) → Int32 → Int32 → Zh → Option (Int32 × Zh) :=
  fun (k23 : Int32 → Int32 → Zh → Option (Int32 × Zh)) (x21 : Int32) (x22 : Int32) (h1 : Zh) => (if (x3 : Int32) < (2 * x22) then (some (x21, h1))
  else zbI (gX1_gather h1 a0 x3 x22) (fun x24 h2 => zlt (zR h2 a0 1) (fun r25 => zbV (gX1_fillBlock h2 a0 r1 x3 x24 r25) (fun h3 => zlt (zR h3 a0 2) (fun r26 => zbV (gX1_fillBlock h3 a0 r2 x3 x24 r26) (fun h4 => zjn (gX1_countUnlike_J1 x3 x21 x22 k23 h4) (fun (k30 : Int32 → Option (Int32 × Zh)) =>
  zlp (fun (_ : Int32) (_ : Int32) => (none : Option (Int32 × Zh))) (gX1_countUnlike_L5 a0 x24 h4 k30) zFU 0 0)))))))
def gX1_countUnlike (h : Zh) (a0 : Nat) (r1 : Option Nat) (r2 : Option Nat) (x3 : Int32) : Option (Int32 × Zh) :=
  zlp (fun (_ : Int32) (_ : Int32) (_ : Zh) => (none : Option (Int32 × Zh))) (gX1_countUnlike_L6 a0 r1 r2 x3) zFU 0 0 h
set_option maxRecDepth 20000 in
theorem cX1_countUnlike_ok (l : Launch) (h : Zh) (a0 : Nat) (r1 : Option Nat) (r2 : Option Nat) (x3 : Int32) : Zc l yX1_countUnlike mX1_countUnlike 0 h [(.ref a0, 1), (va_rf r1, 4), (va_rf r2, 4), (.int x3, 0)] ((gX1_countUnlike h a0 r1 r2 x3).map zoI) := by
  refine zc_of2 (ls := [some (.ref a0, 1), some (va_rf r1, 4), some (va_rf r2, 4), some (.int x3, 0), none, none, none, none, none, none]) (j := 6) (by decide +kernel) rfl rfl (zEn_ca (zEn_cr (zEn_cr (zEn_ci rfl)))) (Nat.le_of_ble_eq_true rfl) rfl ?_
  unfold gX1_countUnlike
  refine zr_iconst (eX1_countUnlike 0 rfl) zk_iconst_0 ?_
  refine zr_istore (ls2 := [some (.ref a0, 1), some (va_rf r1, 4), some (va_rf r2, 4), some (.int x3, 0), some (.int 0, 0), none, none, none, none, none]) (eX1_countUnlike 1 rfl) (Nat.le_of_ble_eq_true rfl) rfl ?_
  refine zr_iconst (eX1_countUnlike 2 rfl) zk_iconst_0 ?_
  refine zr_istore (ls2 := [some (.ref a0, 1), some (va_rf r1, 4), some (va_rf r2, 4), some (.int x3, 0), some (.int 0, 0), some (.int 0, 0), none, none, none, none]) (eX1_countUnlike 3 rfl) (Nat.le_of_ble_eq_true rfl) rfl ?_
  refine v_drop [true, true, true, true, true, true, false, false, false, false] rfl ?_
  refine zlp_ind (fun (k23 : Int32 → Int32 → Zh → Option (Int32 × Zh)) => ∀ (x21 : Int32) (x22 : Int32) (h1 : Zh), V l mX1_countUnlike (zN h) (zS h) 0 zoI 6 [some (.ref a0, 1), some (va_rf r1, 4), some (va_rf r2, 4), some (.int x3, 0), some (.int x21, 0), some (.int x22, 0), none, none, none, none] [] h1 (k23 x21 x22 h1)) ?_ ?_ 0 0 h
  · exact fun _ _ _ => v_none
  intro k23 hk23 x21 x22 h1
  unfold gX1_countUnlike_L6
  refine zr_iconst (eX1_countUnlike 4 rfl) zk_iconst_2 ?_
  refine zr_iload (eX1_countUnlike 5 rfl) rfl ?_
  refine zr_imul (eX1_countUnlike 6 rfl) ?_
  refine zr_iload_n (eX1_countUnlike 7 rfl) rfl rfl ?_
  refine zr_icmp_gt (eX1_countUnlike 8 rfl) (t := 143) (by decide) ?_ ?_
  · refine zr_iload (eX1_countUnlike 73 rfl) rfl ?_
    exact zr_iret rfl rfl (eX1_countUnlike 74 rfl)
  · refine zr_aload_n (r := (some a0)) (eX1_countUnlike 9 rfl) rfl rfl ?_
    refine zr_iload_n (eX1_countUnlike 10 rfl) rfl rfl ?_
    refine zr_iload (eX1_countUnlike 11 rfl) rfl ?_
    refine zr_invV_I (as := [(.int x3, 0), (.int x22, 0)]) (cX1_gather_ok l h1 a0 x3 x22) rfl rfl ⟨by decide, by decide, by decide⟩ zcd_X1_gather rfl ⟨zw_679, zw_680, zw_681, zw_71⟩ ⟨Nat.le_of_ble_eq_true rfl, Nat.le_of_ble_eq_true rfl⟩ rfl (Nat.le_of_ble_eq_true rfl) (eX1_countUnlike 12 rfl) (fun x24 h2 => ?_)
    refine zr_istore (ls2 := [some (.ref a0, 1), some (va_rf r1, 4), some (va_rf r2, 4), some (.int x3, 0), some (.int x21, 0), some (.int x22, 0), some (.int x24, 0), none, none, none]) (eX1_countUnlike 13 rfl) (Nat.le_of_ble_eq_true rfl) rfl ?_
    refine zr_aload_n (r := (some a0)) (eX1_countUnlike 14 rfl) rfl rfl ?_
    refine zr_aload_n (r := r1) (eX1_countUnlike 15 rfl) rfl rfl ?_
    refine zr_iload_n (eX1_countUnlike 16 rfl) rfl rfl ?_
    refine zr_iload (eX1_countUnlike 17 rfl) rfl ?_
    refine zr_aload_n (r := (some a0)) (eX1_countUnlike 18 rfl) rfl rfl ?_
    refine zr_getR2 zf_RX1_15 (τ2 := 21) rfl (eX1_countUnlike 19 rfl) ?_
    refine v_letr (fun r25 => ?_)
    refine zr_invV_V (as := [(va_rf r1, 4), (.int x3, 0), (.int x24, 0), (va_rf r25, 21)]) (cX1_fillBlock_ok l h2 a0 r1 x3 x24 r25) rfl rfl ⟨by decide, by decide, by decide⟩ zcd_X1_fillBlock rfl ⟨zw_684, zw_685, zw_686, zw_71⟩ ⟨Nat.le_of_ble_eq_true rfl, Nat.le_of_ble_eq_true rfl⟩ rfl (Nat.le_of_ble_eq_true rfl) (eX1_countUnlike 20 rfl) (fun h3 => ?_)
    refine zr_aload_n (r := (some a0)) (eX1_countUnlike 21 rfl) rfl rfl ?_
    refine zr_aload_n (r := r2) (eX1_countUnlike 22 rfl) rfl rfl ?_
    refine zr_iload_n (eX1_countUnlike 23 rfl) rfl rfl ?_
    refine zr_iload (eX1_countUnlike 24 rfl) rfl ?_
    refine zr_aload_n (r := (some a0)) (eX1_countUnlike 25 rfl) rfl rfl ?_
    refine zr_getR2 zf_RX1_19 (τ2 := 21) rfl (eX1_countUnlike 26 rfl) ?_
    refine v_letr (fun r26 => ?_)
    refine zr_invV_V (as := [(va_rf r2, 4), (.int x3, 0), (.int x24, 0), (va_rf r26, 21)]) (cX1_fillBlock_ok l h3 a0 r2 x3 x24 r26) rfl rfl ⟨by decide, by decide, by decide⟩ zcd_X1_fillBlock rfl ⟨zw_684, zw_685, zw_686, zw_71⟩ ⟨Nat.le_of_ble_eq_true rfl, Nat.le_of_ble_eq_true rfl⟩ rfl (Nat.le_of_ble_eq_true rfl) (eX1_countUnlike 27 rfl) (fun h4 => ?_)
    refine zr_iconst (eX1_countUnlike 28 rfl) zk_iconst_0 ?_
    refine zr_istore (ls2 := [some (.ref a0, 1), some (va_rf r1, 4), some (va_rf r2, 4), some (.int x3, 0), some (.int x21, 0), some (.int x22, 0), some (.int x24, 0), some (.int 0, 0), none, none]) (eX1_countUnlike 29 rfl) (Nat.le_of_ble_eq_true rfl) rfl ?_
    refine zr_iconst (eX1_countUnlike 30 rfl) zk_iconst_0 ?_
    refine zr_istore (ls2 := [some (.ref a0, 1), some (va_rf r1, 4), some (va_rf r2, 4), some (.int x3, 0), some (.int x21, 0), some (.int x22, 0), some (.int x24, 0), some (.int 0, 0), some (.int 0, 0), none]) (eX1_countUnlike 31 rfl) (Nat.le_of_ble_eq_true rfl) rfl ?_
    refine v_jn (fun (k30 : Int32 → Option (Int32 × Zh)) => ∀ (x27 : Int32), V l mX1_countUnlike (zN h) (zS h) 0 zoI 123 [some (.ref a0, 1), some (va_rf r1, 4), some (va_rf r2, 4), some (.int x3, 0), some (.int x21, 0), some (.int x22, 0), none, some (.int x27, 0), none, none] [] h4 (k30 x27)) ?_ ?_
    · intro x27
      unfold gX1_countUnlike_J1
      refine zr_iload (eX1_countUnlike 63 rfl) rfl ?_
      refine zr_iload_n (eX1_countUnlike 64 rfl) rfl rfl ?_
      refine zr_iload (eX1_countUnlike 65 rfl) rfl ?_
      refine zr_invS_i (as := [(.int x3, 0), (.int x22, 0)]) (cX1_timesCounted_ok l h4 x3 x22) rfl zcd_X1_timesCounted ⟨zw_692, zw_693, zw_71⟩ ⟨Nat.le_of_ble_eq_true rfl, Nat.le_of_ble_eq_true rfl⟩ rfl (Nat.le_of_ble_eq_true rfl) (eX1_countUnlike 66 rfl) (fun x28 => ?_)
      refine zr_iload (eX1_countUnlike 67 rfl) rfl ?_
      refine zr_imul (eX1_countUnlike 68 rfl) ?_
      refine zr_iadd (eX1_countUnlike 69 rfl) ?_
      refine v_leti (fun x29 => ?_)
      refine zr_istore (ls2 := [some (.ref a0, 1), some (va_rf r1, 4), some (va_rf r2, 4), some (.int x3, 0), some (.int x29, 0), some (.int x22, 0), none, some (.int x27, 0), none, none]) (eX1_countUnlike 70 rfl) (Nat.le_of_ble_eq_true rfl) rfl ?_
      refine zr_iinc (ls2 := [some (.ref a0, 1), some (va_rf r1, 4), some (va_rf r2, 4), some (.int x3, 0), some (.int x29, 0), some (.int (x22 + 1), 0), none, some (.int x27, 0), none, none]) (eX1_countUnlike 71 rfl) rfl (Nat.le_of_ble_eq_true rfl) zk_iconst_1 rfl ?_
      refine zr_goto (eX1_countUnlike 72 rfl) (t := 6) (by decide) ?_
      exact v_drop [true, true, true, true, true, true, false, false, false, false] rfl (hk23 x29 (x22 + 1) h4)
    intro k30 hk30
    refine v_drop [true, true, true, true, true, true, true, true, true, false] rfl ?_
    refine zlp_ind (fun (k33 : Int32 → Int32 → Option (Int32 × Zh)) => ∀ (x31 : Int32) (x32 : Int32), V l mX1_countUnlike (zN h) (zS h) 0 zoI 53 [some (.ref a0, 1), some (va_rf r1, 4), some (va_rf r2, 4), some (.int x3, 0), some (.int x21, 0), some (.int x22, 0), some (.int x24, 0), some (.int x31, 0), some (.int x32, 0), none] [] h4 (k33 x31 x32)) ?_ ?_ 0 0
    · exact fun _ _ => v_none
    intro k33 hk33 x31 x32
    unfold gX1_countUnlike_L5
    refine zr_iload (eX1_countUnlike 32 rfl) rfl ?_
    refine zr_iload (eX1_countUnlike 33 rfl) rfl ?_
    refine zr_icmp_ge (eX1_countUnlike 34 rfl) (t := 123) (by decide) ?_ ?_
    · exact v_drop [true, true, true, true, true, true, false, true, false, false] rfl (hk30 x31)
    · refine zr_iconst (eX1_countUnlike 35 rfl) zk_iconst_0 ?_
      refine zr_istore (ls2 := [some (.ref a0, 1), some (va_rf r1, 4), some (va_rf r2, 4), some (.int x3, 0), some (.int x21, 0), some (.int x22, 0), some (.int x24, 0), some (.int x31, 0), some (.int x32, 0), some (.int 0, 0)]) (eX1_countUnlike 36 rfl) (Nat.le_of_ble_eq_true rfl) rfl ?_
      refine v_jn (fun (k35 : Int32 → Option (Int32 × Zh)) => ∀ (x34 : Int32), V l mX1_countUnlike (zN h) (zS h) 0 zoI 117 [some (.ref a0, 1), some (va_rf r1, 4), some (va_rf r2, 4), some (.int x3, 0), some (.int x21, 0), some (.int x22, 0), some (.int x24, 0), some (.int x34, 0), some (.int x32, 0), none] [] h4 (k35 x34)) ?_ ?_
      · intro x34
        unfold gX1_countUnlike_J2
        refine zr_iinc (ls2 := [some (.ref a0, 1), some (va_rf r1, 4), some (va_rf r2, 4), some (.int x3, 0), some (.int x21, 0), some (.int x22, 0), some (.int x24, 0), some (.int x34, 0), some (.int (x32 + 1), 0), none]) (eX1_countUnlike 61 rfl) rfl (Nat.le_of_ble_eq_true rfl) zk_iconst_1 rfl ?_
        refine zr_goto (eX1_countUnlike 62 rfl) (t := 53) (by decide) ?_
        exact v_drop [true, true, true, true, true, true, true, true, true, false] rfl (hk33 x34 (x32 + 1))
      intro k35 hk35
      refine v_drop [true, true, true, true, true, true, true, true, true, true] rfl ?_
      refine zlp_ind (fun (k38 : Int32 → Int32 → Option (Int32 × Zh)) => ∀ (x36 : Int32) (x37 : Int32), V l mX1_countUnlike (zN h) (zS h) 0 zoI 63 [some (.ref a0, 1), some (va_rf r1, 4), some (va_rf r2, 4), some (.int x3, 0), some (.int x21, 0), some (.int x22, 0), some (.int x24, 0), some (.int x36, 0), some (.int x32, 0), some (.int x37, 0)] [] h4 (k38 x36 x37)) ?_ ?_ x31 0
      · exact fun _ _ => v_none
      intro k38 hk38 x36 x37
      unfold gX1_countUnlike_L4
      refine zr_iload (eX1_countUnlike 37 rfl) rfl ?_
      refine zr_iload (eX1_countUnlike 38 rfl) rfl ?_
      refine zr_icmp_ge (eX1_countUnlike 39 rfl) (t := 117) (by decide) ?_ ?_
      · exact v_drop [true, true, true, true, true, true, true, true, true, false] rfl (hk35 x36)
      · refine zr_aload_n (r := (some a0)) (eX1_countUnlike 40 rfl) rfl rfl ?_
        refine zr_getR2 zf_RX1_15 (τ2 := 21) rfl (eX1_countUnlike 41 rfl) ?_
        refine v_letr (fun r39 => ?_)
        refine zr_aload_n (r := (some a0)) (eX1_countUnlike 42 rfl) rfl rfl ?_
        refine zr_getR2 zf_RX1_19 (τ2 := 21) rfl (eX1_countUnlike 43 rfl) ?_
        refine v_letr (fun r40 => ?_)
        refine zr_iload (eX1_countUnlike 44 rfl) rfl ?_
        refine zr_iload (eX1_countUnlike 45 rfl) rfl ?_
        refine zr_iload (eX1_countUnlike 46 rfl) rfl ?_
        refine zr_invS_j (as := [(va_rf r39, 21), (va_rf r40, 21), (.int x24, 0), (.int x32, 0), (.int x37, 0)]) (cX1_product_ok l h4 r39 r40 x24 x32 x37) rfl zcd_X1_product ⟨zw_689, zw_690, zw_71⟩ ⟨Nat.le_of_ble_eq_true rfl, Nat.le_of_ble_eq_true rfl⟩ rfl (Nat.le_of_ble_eq_true rfl) (eX1_countUnlike 47 rfl) (fun x41 => ?_)
        refine zr_aload_n (r := (some a0)) (eX1_countUnlike 48 rfl) rfl rfl ?_
        refine zr_getR2 zf_RX1_19 (τ2 := 21) rfl (eX1_countUnlike 49 rfl) ?_
        refine v_letr (fun r42 => ?_)
        refine zr_aload_n (r := (some a0)) (eX1_countUnlike 50 rfl) rfl rfl ?_
        refine zr_getR2 zf_RX1_15 (τ2 := 21) rfl (eX1_countUnlike 51 rfl) ?_
        refine v_letr (fun r43 => ?_)
        refine zr_iload (eX1_countUnlike 52 rfl) rfl ?_
        refine zr_iload (eX1_countUnlike 53 rfl) rfl ?_
        refine zr_iload (eX1_countUnlike 54 rfl) rfl ?_
        refine zr_invS_j (as := [(va_rf r42, 21), (va_rf r43, 21), (.int x24, 0), (.int x32, 0), (.int x37, 0)]) (cX1_product_ok l h4 r42 r43 x24 x32 x37) rfl zcd_X1_product ⟨zw_689, zw_690, zw_71⟩ ⟨Nat.le_of_ble_eq_true rfl, Nat.le_of_ble_eq_true rfl⟩ rfl (Nat.le_of_ble_eq_true rfl) (eX1_countUnlike 55 rfl) (fun x44 => ?_)
        refine zr_lcmp (eX1_countUnlike 56 rfl) ?_
        refine v_jn (fun (k46 : Int32 → Option (Int32 × Zh)) => ∀ (x45 : Int32), V l mX1_countUnlike (zN h) (zS h) 0 zoI 111 [some (.ref a0, 1), some (va_rf r1, 4), some (va_rf r2, 4), some (.int x3, 0), some (.int x21, 0), some (.int x22, 0), some (.int x24, 0), some (.int x45, 0), some (.int x32, 0), some (.int x37, 0)] [] h4 (k46 x45)) ?_ ?_
        · intro x45
          unfold gX1_countUnlike_J3
          refine zr_iinc (ls2 := [some (.ref a0, 1), some (va_rf r1, 4), some (va_rf r2, 4), some (.int x3, 0), some (.int x21, 0), some (.int x22, 0), some (.int x24, 0), some (.int x45, 0), some (.int x32, 0), some (.int (x37 + 1), 0)]) (eX1_countUnlike 59 rfl) rfl (Nat.le_of_ble_eq_true rfl) zk_iconst_1 rfl ?_
          refine zr_goto (eX1_countUnlike 60 rfl) (t := 63) (by decide) ?_
          exact v_drop [true, true, true, true, true, true, true, true, true, true] rfl (hk38 x45 (x37 + 1))
        intro k46 hk46
        refine zr_if_eq (eX1_countUnlike 57 rfl) (t := 111) (by decide) ?_ ?_
        · exact v_drop [true, true, true, true, true, true, true, true, true, true] rfl (hk46 x36)
        · refine zr_iinc (ls2 := [some (.ref a0, 1), some (va_rf r1, 4), some (va_rf r2, 4), some (.int x3, 0), some (.int x21, 0), some (.int x22, 0), some (.int x24, 0), some (.int (x36 + 1), 0), some (.int x32, 0), some (.int x37, 0)]) (eX1_countUnlike 58 rfl) rfl (Nat.le_of_ble_eq_true rfl) zk_iconst_1 rfl ?_
          exact v_drop [true, true, true, true, true, true, true, true, true, true] rfl (hk46 (x36 + 1))
def gX1_multiplyRest_J1 (x21 : Int32) (k22 : Int32 → Zh → Option (Zh)) : Zh → Option (Zh) :=
  fun (h2 : Zh) => k22 (x21 + 1) h2
def gX1_multiplyRest_J2 (r2 : Option Nat) (x21 : Int32) (x24 : Int32) (h3 : Zh) (k25 : Int32 → Zh → Option (Zh)) : Int64 → Option (Zh) :=
  fun (x26 : Int64) => Option.bind r2 (fun a27 => zg (zin ((x21 * 20) + x24) (zL h3 a27)) (zlt (zsJ h3 a27 (zx ((x21 * 20) + x24)) x26) (fun (h4 : Zh) => k25 (x24 + 1) h4)))
def gX1_multiplyRest_L3 (r0 : Option Nat) (r1 : Option Nat) (x3 : Int32) (x21 : Int32) (x24 : Int32) (h3 : Zh) (k28 : Int64 → Option (Zh)) : (Int64 → Int32 → Option (Zh)) → Int64 → Int32 → Option (Zh) :=
  fun (k31 : Int64 → Int32 → Option (Zh)) (x29 : Int64) (x30 : Int32) => (if (x3 : Int32) ≤ x30 then k28 x29
  else Option.bind r0 (fun a32 => zg (zin ((x21 * 20) + x30) (zL h3 a32)) (Option.bind r1 (fun a33 => zg (zin ((x30 * 20) + x24) (zL h3 a33)) ((if (1000000007 : Int64) = 0 then none else zlt ((x29 + ((zJ h3 a32 (zx ((x21 * 20) + x30))) * (zJ h3 a33 (zx ((x30 * 20) + x24))))) - (x29 + ((zJ h3 a32 (zx ((x21 * 20) + x30))) * (zJ h3 a33 (zx ((x30 * 20) + x24))))) / 1000000007 * 1000000007) (fun x34 => k31 x34 (x30 + 1))))))))
def gX1_multiplyRest_L4 (r0 : Option Nat) (r1 : Option Nat) (r2 : Option Nat) (x3 : Int32) (x21 : Int32) (k23 : Zh → Option (Zh)) : (Int32 → Zh → Option (Zh)) → Int32 → Zh → Option (Zh) :=
  fun (k25 : Int32 → Zh → Option (Zh)) (x24 : Int32) (h3 : Zh) => (if (x3 : Int32) ≤ x24 then k23 h3
  else zjn (gX1_multiplyRest_J2 r2 x21 x24 h3 k25) (fun (k28 : Int64 → Option (Zh)) =>
  zlp (fun (_ : Int64) (_ : Int32) => (none : Option (Zh))) (gX1_multiplyRest_L3 r0 r1 x3 x21 x24 h3 k28) zFU 0 0))
def gX1_multiplyRest_L5 (r0 : Option Nat) (r1 : Option Nat) (r2 : Option Nat) (x3 : Int32) : (Int32 → Zh → Option (Zh)) → Int32 → Zh → Option (Zh) :=
  fun (k22 : Int32 → Zh → Option (Zh)) (x21 : Int32) (h1 : Zh) => (if (x3 : Int32) ≤ x21 then some h1
  else zjn (gX1_multiplyRest_J1 x21 k22) (fun (k23 : Zh → Option (Zh)) =>
  zlp (fun (_ : Int32) (_ : Zh) => (none : Option (Zh))) (gX1_multiplyRest_L4 r0 r1 r2 x3 x21 k23) zFU 0 h1))
def gX1_multiplyRest (h : Zh) (r0 : Option Nat) (r1 : Option Nat) (r2 : Option Nat) (x3 : Int32) : Option (Zh) :=
  zlp (fun (_ : Int32) (_ : Zh) => (none : Option (Zh))) (gX1_multiplyRest_L5 r0 r1 r2 x3) zFU 0 h
set_option maxRecDepth 20000 in
theorem cX1_multiplyRest_ok (l : Launch) (h : Zh) (r0 : Option Nat) (r1 : Option Nat) (r2 : Option Nat) (x3 : Int32) : Zc l yX1_multiplyRest mX1_multiplyRest 0 h [(va_rf r0, 21), (va_rf r1, 21), (va_rf r2, 21), (.int x3, 0)] ((gX1_multiplyRest h r0 r1 r2 x3).map zoV) := by
  refine zc_of2 (ls := [some (va_rf r0, 21), some (va_rf r1, 21), some (va_rf r2, 21), some (.int x3, 0), none, none, none, none, none]) (j := 5) (by decide +kernel) rfl rfl (zEn_cr (zEn_cr (zEn_cr (zEn_ci rfl)))) (Nat.le_of_ble_eq_true rfl) rfl ?_
  unfold gX1_multiplyRest
  refine zr_iconst (eX1_multiplyRest 0 rfl) zk_iconst_0 ?_
  refine zr_istore (ls2 := [some (va_rf r0, 21), some (va_rf r1, 21), some (va_rf r2, 21), some (.int x3, 0), some (.int 0, 0), none, none, none, none]) (eX1_multiplyRest 1 rfl) (Nat.le_of_ble_eq_true rfl) rfl ?_
  refine v_drop [true, true, true, true, true, false, false, false, false] rfl ?_
  refine zlp_ind (fun (k22 : Int32 → Zh → Option (Zh)) => ∀ (x21 : Int32) (h1 : Zh), V l mX1_multiplyRest (zN h) (zS h) 0 zoV 3 [some (va_rf r0, 21), some (va_rf r1, 21), some (va_rf r2, 21), some (.int x3, 0), some (.int x21, 0), none, none, none, none] [] h1 (k22 x21 h1)) ?_ ?_ 0 h
  · exact fun _ _ => v_none
  intro k22 hk22 x21 h1
  unfold gX1_multiplyRest_L5
  refine zr_iload (eX1_multiplyRest 2 rfl) rfl ?_
  refine zr_iload_n (eX1_multiplyRest 3 rfl) rfl rfl ?_
  refine zr_icmp_ge (eX1_multiplyRest 4 rfl) (t := 90) (by decide) ?_ ?_
  · exact zr_vret rfl rfl (eX1_multiplyRest 51 rfl)
  · refine zr_iconst (eX1_multiplyRest 5 rfl) zk_iconst_0 ?_
    refine zr_istore (ls2 := [some (va_rf r0, 21), some (va_rf r1, 21), some (va_rf r2, 21), some (.int x3, 0), some (.int x21, 0), some (.int 0, 0), none, none, none]) (eX1_multiplyRest 6 rfl) (Nat.le_of_ble_eq_true rfl) rfl ?_
    refine v_jn (fun (k23 : Zh → Option (Zh)) => ∀ (h2 : Zh), V l mX1_multiplyRest (zN h) (zS h) 0 zoV 84 [some (va_rf r0, 21), some (va_rf r1, 21), some (va_rf r2, 21), some (.int x3, 0), some (.int x21, 0), none, none, none, none] [] h2 (k23 h2)) ?_ ?_
    · intro h2
      unfold gX1_multiplyRest_J1
      refine zr_iinc (ls2 := [some (va_rf r0, 21), some (va_rf r1, 21), some (va_rf r2, 21), some (.int x3, 0), some (.int (x21 + 1), 0), none, none, none, none]) (eX1_multiplyRest 49 rfl) rfl (Nat.le_of_ble_eq_true rfl) zk_iconst_1 rfl ?_
      refine zr_goto (eX1_multiplyRest 50 rfl) (t := 3) (by decide) ?_
      exact v_drop [true, true, true, true, true, false, false, false, false] rfl (hk22 (x21 + 1) h2)
    intro k23 hk23
    refine v_drop [true, true, true, true, true, true, false, false, false] rfl ?_
    refine zlp_ind (fun (k25 : Int32 → Zh → Option (Zh)) => ∀ (x24 : Int32) (h3 : Zh), V l mX1_multiplyRest (zN h) (zS h) 0 zoV 12 [some (va_rf r0, 21), some (va_rf r1, 21), some (va_rf r2, 21), some (.int x3, 0), some (.int x21, 0), some (.int x24, 0), none, none, none] [] h3 (k25 x24 h3)) ?_ ?_ 0 h1
    · exact fun _ _ => v_none
    intro k25 hk25 x24 h3
    unfold gX1_multiplyRest_L4
    refine zr_iload (eX1_multiplyRest 7 rfl) rfl ?_
    refine zr_iload_n (eX1_multiplyRest 8 rfl) rfl rfl ?_
    refine zr_icmp_ge (eX1_multiplyRest 9 rfl) (t := 84) (by decide) ?_ ?_
    · exact v_drop [true, true, true, true, true, false, false, false, false] rfl (hk23 h3)
    · refine zr_lconst (eX1_multiplyRest 10 rfl) zk_lconst_0 ?_
      refine zr_lstore (ls2 := [some (va_rf r0, 21), some (va_rf r1, 21), some (va_rf r2, 21), some (.int x3, 0), some (.int x21, 0), some (.int x24, 0), some (.long 0, 0), none, none]) (eX1_multiplyRest 11 rfl) (Nat.le_of_ble_eq_true rfl) rfl ?_
      refine zr_iconst (eX1_multiplyRest 12 rfl) zk_iconst_0 ?_
      refine zr_istore (ls2 := [some (va_rf r0, 21), some (va_rf r1, 21), some (va_rf r2, 21), some (.int x3, 0), some (.int x21, 0), some (.int x24, 0), some (.long 0, 0), none, some (.int 0, 0)]) (eX1_multiplyRest 13 rfl) (Nat.le_of_ble_eq_true rfl) rfl ?_
      refine v_jn (fun (k28 : Int64 → Option (Zh)) => ∀ (x26 : Int64), V l mX1_multiplyRest (zN h) (zS h) 0 zoV 66 [some (va_rf r0, 21), some (va_rf r1, 21), some (va_rf r2, 21), some (.int x3, 0), some (.int x21, 0), some (.int x24, 0), some (.long x26, 0), none, none] [] h3 (k28 x26)) ?_ ?_
      · intro x26
        unfold gX1_multiplyRest_J2
        refine zr_aload_n (r := r2) (eX1_multiplyRest 39 rfl) rfl rfl ?_
        refine zr_iload (eX1_multiplyRest 40 rfl) rfl ?_
        refine zr_bipush (eX1_multiplyRest 41 rfl) zk_bipush_20 ?_
        refine zr_imul (eX1_multiplyRest 42 rfl) ?_
        refine zr_iload (eX1_multiplyRest 43 rfl) rfl ?_
        refine zr_iadd (eX1_multiplyRest 44 rfl) ?_
        refine zr_lload (eX1_multiplyRest 45 rfl) rfl ?_
        refine v_nn (fun a27 ea27 => ?_)
        subst ea27
        refine zr_last (eX1_multiplyRest 46 rfl) ?_
        refine v_leth (fun h4 => ?_)
        refine zr_iinc (ls2 := [some (va_rf r0, 21), some (va_rf r1, 21), some (.ref a27, 21), some (.int x3, 0), some (.int x21, 0), some (.int (x24 + 1), 0), some (.long x26, 0), none, none]) (eX1_multiplyRest 47 rfl) rfl (Nat.le_of_ble_eq_true rfl) zk_iconst_1 rfl ?_
        refine zr_goto (eX1_multiplyRest 48 rfl) (t := 12) (by decide) ?_
        exact v_drop [true, true, true, true, true, true, false, false, false] rfl (hk25 (x24 + 1) h4)
      intro k28 hk28
      refine v_drop [true, true, true, true, true, true, true, false, true] rfl ?_
      refine zlp_ind (fun (k31 : Int64 → Int32 → Option (Zh)) => ∀ (x29 : Int64) (x30 : Int32), V l mX1_multiplyRest (zN h) (zS h) 0 zoV 24 [some (va_rf r0, 21), some (va_rf r1, 21), some (va_rf r2, 21), some (.int x3, 0), some (.int x21, 0), some (.int x24, 0), some (.long x29, 0), none, some (.int x30, 0)] [] h3 (k31 x29 x30)) ?_ ?_ 0 0
      · exact fun _ _ => v_none
      intro k31 hk31 x29 x30
      unfold gX1_multiplyRest_L3
      refine zr_iload (eX1_multiplyRest 14 rfl) rfl ?_
      refine zr_iload_n (eX1_multiplyRest 15 rfl) rfl rfl ?_
      refine zr_icmp_ge (eX1_multiplyRest 16 rfl) (t := 66) (by decide) ?_ ?_
      · exact v_drop [true, true, true, true, true, true, true, false, false] rfl (hk28 x29)
      · refine zr_lload (eX1_multiplyRest 17 rfl) rfl ?_
        refine zr_aload_n (r := r0) (eX1_multiplyRest 18 rfl) rfl rfl ?_
        refine zr_iload (eX1_multiplyRest 19 rfl) rfl ?_
        refine zr_bipush (eX1_multiplyRest 20 rfl) zk_bipush_20 ?_
        refine zr_imul (eX1_multiplyRest 21 rfl) ?_
        refine zr_iload (eX1_multiplyRest 22 rfl) rfl ?_
        refine zr_iadd (eX1_multiplyRest 23 rfl) ?_
        refine v_nn (fun a32 ea32 => ?_)
        subst ea32
        refine zr_lald (eX1_multiplyRest 24 rfl) ?_
        refine zr_aload_n (r := r1) (eX1_multiplyRest 25 rfl) rfl rfl ?_
        refine zr_iload (eX1_multiplyRest 26 rfl) rfl ?_
        refine zr_bipush (eX1_multiplyRest 27 rfl) zk_bipush_20 ?_
        refine zr_imul (eX1_multiplyRest 28 rfl) ?_
        refine zr_iload (eX1_multiplyRest 29 rfl) rfl ?_
        refine zr_iadd (eX1_multiplyRest 30 rfl) ?_
        refine v_nn (fun a33 ea33 => ?_)
        subst ea33
        refine zr_lald (eX1_multiplyRest 31 rfl) ?_
        refine zr_lmul (eX1_multiplyRest 32 rfl) ?_
        refine zr_ladd (eX1_multiplyRest 33 rfl) ?_
        refine zr_ldc2 (eX1_multiplyRest 34 rfl) zw_703 ?_
        refine zr_lrem (eX1_multiplyRest 35 rfl) ?_
        refine v_letj (fun x34 => ?_)
        refine zr_lstore (ls2 := [some (.ref a32, 21), some (.ref a33, 21), some (va_rf r2, 21), some (.int x3, 0), some (.int x21, 0), some (.int x24, 0), some (.long x34, 0), none, some (.int x30, 0)]) (eX1_multiplyRest 36 rfl) (Nat.le_of_ble_eq_true rfl) rfl ?_
        refine zr_iinc (ls2 := [some (.ref a32, 21), some (.ref a33, 21), some (va_rf r2, 21), some (.int x3, 0), some (.int x21, 0), some (.int x24, 0), some (.long x34, 0), none, some (.int (x30 + 1), 0)]) (eX1_multiplyRest 37 rfl) rfl (Nat.le_of_ble_eq_true rfl) zk_iconst_1 rfl ?_
        refine zr_goto (eX1_multiplyRest 38 rfl) (t := 24) (by decide) ?_
        exact v_drop [true, true, true, true, true, true, true, false, true] rfl (hk31 x34 (x30 + 1))
def gX1_raised_J1 (a0 : Nat) (x1 : Int32) (h1 : Zh) (r24 : Option Nat) : Option Nat → Option (Option Nat × Zh) :=
  fun (r25 : Option Nat) => zlt (zR h1 a0 3) (fun r26 => zbV (gX1_multiplyRest h1 r24 r25 r26 x1) (fun h2 => zlt (zR h2 a0 3) (fun r27 => (some (r27, h2)))))
def gX1_raised (h : Zh) (a0 : Nat) (x1 : Int32) (x2 : Int32) : Option (Option Nat × Zh) :=
  (if (x2 : Int32) = 1 then zlt (zR h a0 1) (fun r32 => (some (r32, h)))
  else zlt (zR h a0 1) (fun r21 => zlt (zR h a0 1) (fun r22 => zlt (zR h a0 2) (fun r23 => zbV (gX1_multiplyRest h r21 r22 r23 x1) (fun h1 => (if (x2 : Int32) = 2 then zlt (zR h1 a0 2) (fun r31 => (some (r31, h1)))
  else zlt (zR h1 a0 2) (fun r24 => zjn (gX1_raised_J1 a0 x1 h1 r24) (fun (k28 : Option Nat → Option (Option Nat × Zh)) =>
  (if (x2 : Int32) = 3 then zlt (zR h1 a0 1) (fun r30 => k28 r30)
  else zlt (zR h1 a0 2) (fun r29 => k28 r29))))))))))
set_option maxRecDepth 20000 in
theorem cX1_raised_ok (l : Launch) (h : Zh) (a0 : Nat) (x1 : Int32) (x2 : Int32) : Zc l yX1_raised mX1_raised 21 h [(.ref a0, 1), (.int x1, 0), (.int x2, 0)] ((gX1_raised h a0 x1 x2).map zoR) := by
  refine zc_of2 (ls := [some (.ref a0, 1), some (.int x1, 0), some (.int x2, 0)]) (j := 0) (by decide +kernel) rfl rfl (zEn_ca (zEn_ci (zEn_ci rfl))) (Nat.le_of_ble_eq_true rfl) rfl ?_
  unfold gX1_raised
  refine zr_iload_n (eX1_raised 0 rfl) rfl rfl ?_
  refine zr_iconst (eX1_raised 1 rfl) zk_iconst_1 ?_
  refine zr_icmp_ne (eX1_raised 2 rfl) (t := 10) (by decide) ?_ ?_
  · refine zr_aload_n (r := (some a0)) (eX1_raised 6 rfl) rfl rfl ?_
    refine zr_getR2 zf_RX1_15 (τ2 := 21) rfl (eX1_raised 7 rfl) ?_
    refine v_letr (fun r21 => ?_)
    refine zr_aload_n (r := (some a0)) (eX1_raised 8 rfl) rfl rfl ?_
    refine zr_getR2 zf_RX1_15 (τ2 := 21) rfl (eX1_raised 9 rfl) ?_
    refine v_letr (fun r22 => ?_)
    refine zr_aload_n (r := (some a0)) (eX1_raised 10 rfl) rfl rfl ?_
    refine zr_getR2 zf_RX1_19 (τ2 := 21) rfl (eX1_raised 11 rfl) ?_
    refine v_letr (fun r23 => ?_)
    refine zr_iload_n (eX1_raised 12 rfl) rfl rfl ?_
    refine zr_invS_V (as := [(va_rf r21, 21), (va_rf r22, 21), (va_rf r23, 21), (.int x1, 0)]) (cX1_multiplyRest_ok l h r21 r22 r23 x1) rfl zcd_X1_multiplyRest ⟨zw_715, zw_716, zw_71⟩ ⟨Nat.le_of_ble_eq_true rfl, Nat.le_of_ble_eq_true rfl⟩ rfl (Nat.le_of_ble_eq_true rfl) (eX1_raised 13 rfl) (fun h1 => ?_)
    refine zr_iload_n (eX1_raised 14 rfl) rfl rfl ?_
    refine zr_iconst (eX1_raised 15 rfl) zk_iconst_2 ?_
    refine zr_icmp_ne (eX1_raised 16 rfl) (t := 36) (by decide) ?_ ?_
    · refine zr_aload_n (r := (some a0)) (eX1_raised 20 rfl) rfl rfl ?_
      refine zr_getR2 zf_RX1_19 (τ2 := 21) rfl (eX1_raised 21 rfl) ?_
      refine v_letr (fun r24 => ?_)
      refine zr_iload_n (eX1_raised 22 rfl) rfl rfl ?_
      refine zr_iconst (eX1_raised 23 rfl) zk_iconst_3 ?_
      refine v_jn (fun (k28 : Option Nat → Option (Option Nat × Zh)) => ∀ (r25 : Option Nat), V l mX1_raised (zN h) (zS h) 21 zoR 56 [some (.ref a0, 1), some (.int x1, 0), none] [(va_rf r25, 21), (va_rf r24, 21)] h1 (k28 r25)) ?_ ?_
      · intro r25
        unfold gX1_raised_J1
        refine zr_aload_n (r := (some a0)) (eX1_raised 30 rfl) rfl rfl ?_
        refine zr_getR2 zf_RX1_22 (τ2 := 21) rfl (eX1_raised 31 rfl) ?_
        refine v_letr (fun r26 => ?_)
        refine zr_iload_n (eX1_raised 32 rfl) rfl rfl ?_
        refine zr_invS_V (as := [(va_rf r24, 21), (va_rf r25, 21), (va_rf r26, 21), (.int x1, 0)]) (cX1_multiplyRest_ok l h1 r24 r25 r26 x1) rfl zcd_X1_multiplyRest ⟨zw_715, zw_716, zw_71⟩ ⟨Nat.le_of_ble_eq_true rfl, Nat.le_of_ble_eq_true rfl⟩ rfl (Nat.le_of_ble_eq_true rfl) (eX1_raised 33 rfl) (fun h2 => ?_)
        refine zr_aload_n (r := (some a0)) (eX1_raised 34 rfl) rfl rfl ?_
        refine zr_getR2 zf_RX1_22 (τ2 := 21) rfl (eX1_raised 35 rfl) ?_
        refine v_letr (fun r27 => ?_)
        exact zr_aret (r := r27) rfl rfl (Or.inr ⟨_, rfl⟩) (eX1_raised 36 rfl)
      intro k28 hk28
      refine zr_icmp_ne (eX1_raised 24 rfl) (t := 52) (by decide) ?_ ?_
      · refine zr_aload_n (r := (some a0)) (eX1_raised 28 rfl) rfl rfl ?_
        refine zr_getR2 zf_RX1_19 (τ2 := 21) rfl (eX1_raised 29 rfl) ?_
        refine v_letr (fun r29 => ?_)
        exact v_drop [true, true, false] rfl (hk28 r29)
      · refine zr_aload_n (r := (some a0)) (eX1_raised 25 rfl) rfl rfl ?_
        refine zr_getR2 zf_RX1_15 (τ2 := 21) rfl (eX1_raised 26 rfl) ?_
        refine v_letr (fun r30 => ?_)
        refine zr_goto (eX1_raised 27 rfl) (t := 56) (by decide) ?_
        exact v_drop [true, true, false] rfl (hk28 r30)
    · refine zr_aload_n (r := (some a0)) (eX1_raised 17 rfl) rfl rfl ?_
      refine zr_getR2 zf_RX1_19 (τ2 := 21) rfl (eX1_raised 18 rfl) ?_
      refine v_letr (fun r31 => ?_)
      exact zr_aret (r := r31) rfl rfl (Or.inr ⟨_, rfl⟩) (eX1_raised 19 rfl)
  · refine zr_aload_n (r := (some a0)) (eX1_raised 3 rfl) rfl rfl ?_
    refine zr_getR2 zf_RX1_15 (τ2 := 21) rfl (eX1_raised 4 rfl) ?_
    refine v_letr (fun r32 => ?_)
    exact zr_aret (r := r32) rfl rfl (Or.inr ⟨_, rfl⟩) (eX1_raised 5 rfl)
def gX1_diagonalOf_J1 (x24 : Int32) (k25 : Int64 → Int32 → Option (Int64 × Zh)) : Int64 → Option (Int64 × Zh) :=
  fun (x26 : Int64) => k25 x26 (x24 + 1)
def gX1_diagonalOf_L2 (x1 : Int32) (r21 : Option Nat) (r22 : Option Nat) (h2 : Zh) (x24 : Int32) (k27 : Int64 → Option (Int64 × Zh)) : (Int64 → Int32 → Option (Int64 × Zh)) → Int64 → Int32 → Option (Int64 × Zh) :=
  fun (k30 : Int64 → Int32 → Option (Int64 × Zh)) (x28 : Int64) (x29 : Int32) => (if (x1 : Int32) ≤ x29 then k27 x28
  else Option.bind r21 (fun a31 => zg (zin ((x24 * 20) + x29) (zL h2 a31)) (Option.bind r22 (fun a32 => zg (zin ((x29 * 20) + x24) (zL h2 a32)) ((if (1000000007 : Int64) = 0 then none else zlt ((x28 + ((zJ h2 a31 (zx ((x24 * 20) + x29))) * (zJ h2 a32 (zx ((x29 * 20) + x24))))) - (x28 + ((zJ h2 a31 (zx ((x24 * 20) + x29))) * (zJ h2 a32 (zx ((x29 * 20) + x24))))) / 1000000007 * 1000000007) (fun x33 => k30 x33 (x29 + 1))))))))
def gX1_diagonalOf_L3 (x1 : Int32) (r21 : Option Nat) (r22 : Option Nat) (h2 : Zh) : (Int64 → Int32 → Option (Int64 × Zh)) → Int64 → Int32 → Option (Int64 × Zh) :=
  fun (k25 : Int64 → Int32 → Option (Int64 × Zh)) (x23 : Int64) (x24 : Int32) => (if (x1 : Int32) ≤ x24 then (some (x23, h2))
  else zjn (gX1_diagonalOf_J1 x24 k25) (fun (k27 : Int64 → Option (Int64 × Zh)) =>
  zlp (fun (_ : Int64) (_ : Int32) => (none : Option (Int64 × Zh))) (gX1_diagonalOf_L2 x1 r21 r22 h2 x24 k27) zFU x23 0))
def gX1_diagonalOf_J4 (x1 : Int32) (r21 : Option Nat) : Option Nat → Zh → Option (Int64 × Zh) :=
  fun (r22 : Option Nat) (h2 : Zh) => zlp (fun (_ : Int64) (_ : Int32) => (none : Option (Int64 × Zh))) (gX1_diagonalOf_L3 x1 r21 r22 h2) zFU 0 0
def gX1_diagonalOf_J5 (h : Zh) : Int64 → Option (Int64 × Zh) :=
  fun (x38 : Int64) => (if (1000000007 : Int64) = 0 then none else (some ((x38 - x38 / 1000000007 * 1000000007), h)))
def gX1_diagonalOf_L6 (h : Zh) (a0 : Nat) (x1 : Int32) (k39 : Int64 → Option (Int64 × Zh)) : (Int64 → Int32 → Option (Int64 × Zh)) → Int64 → Int32 → Option (Int64 × Zh) :=
  fun (k42 : Int64 → Int32 → Option (Int64 × Zh)) (x40 : Int64) (x41 : Int32) => (if (x1 : Int32) ≤ x41 then k39 x40
  else zlt (zR h a0 1) (fun r43 => Option.bind r43 (fun a44 => zg (zin ((x41 * 20) + x41) (zL h a44)) (zlt (x40 + (zJ h a44 (zx ((x41 * 20) + x41)))) (fun x45 => k42 x45 (x41 + 1))))))
def gX1_diagonalOf (h : Zh) (a0 : Nat) (x1 : Int32) (x2 : Int32) : Option (Int64 × Zh) :=
  (if (x2 : Int32) = 1 then zjn (gX1_diagonalOf_J5 h) (fun (k39 : Int64 → Option (Int64 × Zh)) =>
  zlp (fun (_ : Int64) (_ : Int32) => (none : Option (Int64 × Zh))) (gX1_diagonalOf_L6 h a0 x1 k39) zFU 0 0)
  else (if (2 : Int32) = 0 then none else zbR (gX1_raised h a0 x1 (x2 / 2)) (fun r21 h1 => (if (2 : Int32) = 0 then none else zjn (gX1_diagonalOf_J4 x1 r21) (fun (k34 : Option Nat → Zh → Option (Int64 × Zh)) =>
  (if ((x2 - x2 / 2 * 2) : Int32) = 1 then zlt (zR h1 a0 1) (fun r35 => zlt (zR h1 a0 4) (fun r36 => zbV (gX1_multiplyRest h1 r21 r35 r36 x1) (fun h3 => zlt (zR h3 a0 4) (fun r37 => k34 r37 h3))))
  else k34 r21 h1))))))
set_option maxRecDepth 20000 in
theorem cX1_diagonalOf_ok (l : Launch) (h : Zh) (a0 : Nat) (x1 : Int32) (x2 : Int32) : Zc l yX1_diagonalOf mX1_diagonalOf 0 h [(.ref a0, 1), (.int x1, 0), (.int x2, 0)] ((gX1_diagonalOf h a0 x1 x2).map zoJ) := by
  refine zc_of2 (ls := [some (.ref a0, 1), some (.int x1, 0), some (.int x2, 0), none, none, none, none, none, none]) (j := 6) (by decide +kernel) rfl rfl (zEn_ca (zEn_ci (zEn_ci rfl))) (Nat.le_of_ble_eq_true rfl) rfl ?_
  unfold gX1_diagonalOf
  refine zr_lconst (eX1_diagonalOf 0 rfl) zk_lconst_0 ?_
  refine zr_lstore_n (ls2 := [some (.ref a0, 1), some (.int x1, 0), some (.int x2, 0), some (.long 0, 0), none, none, none, none, none]) (eX1_diagonalOf 1 rfl) rfl (Nat.le_of_ble_eq_true rfl) rfl ?_
  refine zr_iload_n (eX1_diagonalOf 2 rfl) rfl rfl ?_
  refine zr_iconst (eX1_diagonalOf 3 rfl) zk_iconst_1 ?_
  refine zr_icmp_ne (eX1_diagonalOf 4 rfl) (t := 44) (by decide) ?_ ?_
  · refine zr_aload_n (r := (some a0)) (eX1_diagonalOf 27 rfl) rfl rfl ?_
    refine zr_iload_n (eX1_diagonalOf 28 rfl) rfl rfl ?_
    refine zr_iload_n (eX1_diagonalOf 29 rfl) rfl rfl ?_
    refine zr_iconst (eX1_diagonalOf 30 rfl) zk_iconst_2 ?_
    refine zr_idiv (eX1_diagonalOf 31 rfl) ?_
    refine zr_invV_R (as := [(.int x1, 0), (.int (x2 / 2), 0)]) (cX1_raised_ok l h a0 x1 (x2 / 2)) rfl rfl ⟨by decide, by decide, by decide⟩ zcd_X1_raised rfl ⟨zw_711, zw_712, zw_713, zw_71⟩ ⟨Nat.le_of_ble_eq_true rfl, Nat.le_of_ble_eq_true rfl⟩ rfl (Nat.le_of_ble_eq_true rfl) (eX1_diagonalOf 32 rfl) (fun r21 h1 => ?_)
    refine zr_astore (r := r21) (ls2 := [some (.ref a0, 1), some (.int x1, 0), some (.int x2, 0), some (.long 0, 0), none, some (va_rf r21, 21), none, none, none]) (eX1_diagonalOf 33 rfl) (Nat.le_of_ble_eq_true rfl) rfl ?_
    refine zr_aload (r := r21) (eX1_diagonalOf 34 rfl) rfl ?_
    refine zr_astore (r := r21) (ls2 := [some (.ref a0, 1), some (.int x1, 0), some (.int x2, 0), some (.long 0, 0), none, some (va_rf r21, 21), some (va_rf r21, 21), none, none]) (eX1_diagonalOf 35 rfl) (Nat.le_of_ble_eq_true rfl) (by simp only [zst1, zst2, zcl_rf]) ?_
    refine zr_iload_n (eX1_diagonalOf 36 rfl) rfl rfl ?_
    refine zr_iconst (eX1_diagonalOf 37 rfl) zk_iconst_2 ?_
    refine zr_irem (eX1_diagonalOf 38 rfl) ?_
    refine zr_iconst (eX1_diagonalOf 39 rfl) zk_iconst_1 ?_
    refine v_jn (fun (k34 : Option Nat → Zh → Option (Int64 × Zh)) => ∀ (r22 : Option Nat) (h2 : Zh), V l mX1_diagonalOf (zN h) (zS h) 0 zoJ 85 [none, some (.int x1, 0), none, some (.long 0, 0), none, some (va_rf r21, 21), some (va_rf r22, 21), none, none] [] h2 (k34 r22 h2)) ?_ ?_
    · intro r22 h2
      unfold gX1_diagonalOf_J4
      refine zr_iconst (eX1_diagonalOf 51 rfl) zk_iconst_0 ?_
      refine zr_istore (ls2 := [none, some (.int x1, 0), none, some (.long 0, 0), none, some (va_rf r21, 21), some (va_rf r22, 21), some (.int 0, 0), none]) (eX1_diagonalOf 52 rfl) (Nat.le_of_ble_eq_true rfl) (by simp only [zst1, zst2, zcl_rf]) ?_
      refine v_drop [false, true, false, true, false, true, true, true, false] rfl ?_
      refine zlp_ind (fun (k25 : Int64 → Int32 → Option (Int64 × Zh)) => ∀ (x23 : Int64) (x24 : Int32), V l mX1_diagonalOf (zN h) (zS h) 0 zoJ 88 [none, some (.int x1, 0), none, some (.long x23, 0), none, some (va_rf r21, 21), some (va_rf r22, 21), some (.int x24, 0), none] [] h2 (k25 x23 x24)) ?_ ?_ 0 0
      · exact fun _ _ => v_none
      intro k25 hk25 x23 x24
      unfold gX1_diagonalOf_L3
      refine zr_iload (eX1_diagonalOf 53 rfl) rfl ?_
      refine zr_iload_n (eX1_diagonalOf 54 rfl) rfl rfl ?_
      refine zr_icmp_ge (eX1_diagonalOf 55 rfl) (t := 145) (by decide) ?_ ?_
      · refine zr_lload_n (eX1_diagonalOf 85 rfl) rfl rfl ?_
        exact zr_lret rfl rfl (eX1_diagonalOf 86 rfl)
      · refine zr_iconst (eX1_diagonalOf 56 rfl) zk_iconst_0 ?_
        refine zr_istore (ls2 := [none, some (.int x1, 0), none, some (.long x23, 0), none, some (va_rf r21, 21), some (va_rf r22, 21), some (.int x24, 0), some (.int 0, 0)]) (eX1_diagonalOf 57 rfl) (Nat.le_of_ble_eq_true rfl) rfl ?_
        refine v_jn (fun (k27 : Int64 → Option (Int64 × Zh)) => ∀ (x26 : Int64), V l mX1_diagonalOf (zN h) (zS h) 0 zoJ 139 [none, some (.int x1, 0), none, some (.long x26, 0), none, some (va_rf r21, 21), some (va_rf r22, 21), some (.int x24, 0), none] [] h2 (k27 x26)) ?_ ?_
        · intro x26
          unfold gX1_diagonalOf_J1
          refine zr_iinc (ls2 := [none, some (.int x1, 0), none, some (.long x26, 0), none, some (va_rf r21, 21), some (va_rf r22, 21), some (.int (x24 + 1), 0), none]) (eX1_diagonalOf 83 rfl) rfl (Nat.le_of_ble_eq_true rfl) zk_iconst_1 (by simp only [zst1, zst2, zcl_rf]) ?_
          refine zr_goto (eX1_diagonalOf 84 rfl) (t := 88) (by decide) ?_
          exact v_drop [false, true, false, true, false, true, true, true, false] rfl (hk25 x26 (x24 + 1))
        intro k27 hk27
        refine v_drop [false, true, false, true, false, true, true, true, true] rfl ?_
        refine zlp_ind (fun (k30 : Int64 → Int32 → Option (Int64 × Zh)) => ∀ (x28 : Int64) (x29 : Int32), V l mX1_diagonalOf (zN h) (zS h) 0 zoJ 97 [none, some (.int x1, 0), none, some (.long x28, 0), none, some (va_rf r21, 21), some (va_rf r22, 21), some (.int x24, 0), some (.int x29, 0)] [] h2 (k30 x28 x29)) ?_ ?_ x23 0
        · exact fun _ _ => v_none
        intro k30 hk30 x28 x29
        unfold gX1_diagonalOf_L2
        refine zr_iload (eX1_diagonalOf 58 rfl) rfl ?_
        refine zr_iload_n (eX1_diagonalOf 59 rfl) rfl rfl ?_
        refine zr_icmp_ge (eX1_diagonalOf 60 rfl) (t := 139) (by decide) ?_ ?_
        · exact v_drop [false, true, false, true, false, true, true, true, false] rfl (hk27 x28)
        · refine zr_lload_n (eX1_diagonalOf 61 rfl) rfl rfl ?_
          refine zr_aload (r := r21) (eX1_diagonalOf 62 rfl) rfl ?_
          refine zr_iload (eX1_diagonalOf 63 rfl) rfl ?_
          refine zr_bipush (eX1_diagonalOf 64 rfl) zk_bipush_20 ?_
          refine zr_imul (eX1_diagonalOf 65 rfl) ?_
          refine zr_iload (eX1_diagonalOf 66 rfl) rfl ?_
          refine zr_iadd (eX1_diagonalOf 67 rfl) ?_
          refine v_nn (fun a31 ea31 => ?_)
          subst ea31
          refine zr_lald (eX1_diagonalOf 68 rfl) ?_
          refine zr_aload (r := r22) (eX1_diagonalOf 69 rfl) rfl ?_
          refine zr_iload (eX1_diagonalOf 70 rfl) rfl ?_
          refine zr_bipush (eX1_diagonalOf 71 rfl) zk_bipush_20 ?_
          refine zr_imul (eX1_diagonalOf 72 rfl) ?_
          refine zr_iload (eX1_diagonalOf 73 rfl) rfl ?_
          refine zr_iadd (eX1_diagonalOf 74 rfl) ?_
          refine v_nn (fun a32 ea32 => ?_)
          subst ea32
          refine zr_lald (eX1_diagonalOf 75 rfl) ?_
          refine zr_lmul (eX1_diagonalOf 76 rfl) ?_
          refine zr_ladd (eX1_diagonalOf 77 rfl) ?_
          refine zr_ldc2 (eX1_diagonalOf 78 rfl) zw_703 ?_
          refine zr_lrem (eX1_diagonalOf 79 rfl) ?_
          refine v_letj (fun x33 => ?_)
          refine zr_lstore_n (ls2 := [none, some (.int x1, 0), none, some (.long x33, 0), none, some (.ref a31, 21), some (.ref a32, 21), some (.int x24, 0), some (.int x29, 0)]) (eX1_diagonalOf 80 rfl) rfl (Nat.le_of_ble_eq_true rfl) rfl ?_
          refine zr_iinc (ls2 := [none, some (.int x1, 0), none, some (.long x33, 0), none, some (.ref a31, 21), some (.ref a32, 21), some (.int x24, 0), some (.int (x29 + 1), 0)]) (eX1_diagonalOf 81 rfl) rfl (Nat.le_of_ble_eq_true rfl) zk_iconst_1 rfl ?_
          refine zr_goto (eX1_diagonalOf 82 rfl) (t := 97) (by decide) ?_
          exact v_drop [false, true, false, true, false, true, true, true, true] rfl (hk30 x33 (x29 + 1))
    intro k34 hk34
    refine zr_icmp_ne (eX1_diagonalOf 40 rfl) (t := 85) (by decide) ?_ ?_
    · exact v_drop [false, true, false, true, false, true, true, false, false] rfl (hk34 r21 h1)
    · refine zr_aload (r := r21) (eX1_diagonalOf 41 rfl) rfl ?_
      refine zr_aload_n (r := (some a0)) (eX1_diagonalOf 42 rfl) rfl rfl ?_
      refine zr_getR2 zf_RX1_15 (τ2 := 21) rfl (eX1_diagonalOf 43 rfl) ?_
      refine v_letr (fun r35 => ?_)
      refine zr_aload_n (r := (some a0)) (eX1_diagonalOf 44 rfl) rfl rfl ?_
      refine zr_getR2 zf_RX1_25 (τ2 := 21) rfl (eX1_diagonalOf 45 rfl) ?_
      refine v_letr (fun r36 => ?_)
      refine zr_iload_n (eX1_diagonalOf 46 rfl) rfl rfl ?_
      refine zr_invS_V (as := [(va_rf r21, 21), (va_rf r35, 21), (va_rf r36, 21), (.int x1, 0)]) (cX1_multiplyRest_ok l h1 r21 r35 r36 x1) rfl zcd_X1_multiplyRest ⟨zw_715, zw_716, zw_71⟩ ⟨Nat.le_of_ble_eq_true rfl, Nat.le_of_ble_eq_true rfl⟩ rfl (Nat.le_of_ble_eq_true rfl) (eX1_diagonalOf 47 rfl) (fun h3 => ?_)
      refine zr_aload_n (r := (some a0)) (eX1_diagonalOf 48 rfl) rfl rfl ?_
      refine zr_getR2 zf_RX1_25 (τ2 := 21) rfl (eX1_diagonalOf 49 rfl) ?_
      refine v_letr (fun r37 => ?_)
      refine zr_astore (r := r37) (ls2 := [some (.ref a0, 1), some (.int x1, 0), some (.int x2, 0), some (.long 0, 0), none, some (va_rf r21, 21), some (va_rf r37, 21), none, none]) (eX1_diagonalOf 50 rfl) (Nat.le_of_ble_eq_true rfl) (by simp only [zst1, zst2, zcl_rf]) ?_
      exact v_drop [false, true, false, true, false, true, true, false, false] rfl (hk34 r37 h3)
  · refine zr_iconst (eX1_diagonalOf 5 rfl) zk_iconst_0 ?_
    refine zr_istore (ls2 := [some (.ref a0, 1), some (.int x1, 0), some (.int x2, 0), some (.long 0, 0), none, some (.int 0, 0), none, none, none]) (eX1_diagonalOf 6 rfl) (Nat.le_of_ble_eq_true rfl) rfl ?_
    refine v_jn (fun (k39 : Int64 → Option (Int64 × Zh)) => ∀ (x38 : Int64), V l mX1_diagonalOf (zN h) (zS h) 0 zoJ 38 [none, none, none, some (.long x38, 0), none, none, none, none, none] [] h (k39 x38)) ?_ ?_
    · intro x38
      unfold gX1_diagonalOf_J5
      refine zr_lload_n (eX1_diagonalOf 23 rfl) rfl rfl ?_
      refine zr_ldc2 (eX1_diagonalOf 24 rfl) zw_703 ?_
      refine zr_lrem (eX1_diagonalOf 25 rfl) ?_
      exact zr_lret rfl rfl (eX1_diagonalOf 26 rfl)
    intro k39 hk39
    refine v_drop [true, true, false, true, false, true, false, false, false] rfl ?_
    refine zlp_ind (fun (k42 : Int64 → Int32 → Option (Int64 × Zh)) => ∀ (x40 : Int64) (x41 : Int32), V l mX1_diagonalOf (zN h) (zS h) 0 zoJ 10 [some (.ref a0, 1), some (.int x1, 0), none, some (.long x40, 0), none, some (.int x41, 0), none, none, none] [] h (k42 x40 x41)) ?_ ?_ 0 0
    · exact fun _ _ => v_none
    intro k42 hk42 x40 x41
    unfold gX1_diagonalOf_L6
    refine zr_iload (eX1_diagonalOf 7 rfl) rfl ?_
    refine zr_iload_n (eX1_diagonalOf 8 rfl) rfl rfl ?_
    refine zr_icmp_ge (eX1_diagonalOf 9 rfl) (t := 38) (by decide) ?_ ?_
    · exact v_drop [false, false, false, true, false, false, false, false, false] rfl (hk39 x40)
    · refine zr_lload_n (eX1_diagonalOf 10 rfl) rfl rfl ?_
      refine zr_aload_n (r := (some a0)) (eX1_diagonalOf 11 rfl) rfl rfl ?_
      refine zr_getR2 zf_RX1_15 (τ2 := 21) rfl (eX1_diagonalOf 12 rfl) ?_
      refine v_letr (fun r43 => ?_)
      refine zr_iload (eX1_diagonalOf 13 rfl) rfl ?_
      refine zr_bipush (eX1_diagonalOf 14 rfl) zk_bipush_20 ?_
      refine zr_imul (eX1_diagonalOf 15 rfl) ?_
      refine zr_iload (eX1_diagonalOf 16 rfl) rfl ?_
      refine zr_iadd (eX1_diagonalOf 17 rfl) ?_
      refine v_nn (fun a44 ea44 => ?_)
      subst ea44
      refine zr_lald (eX1_diagonalOf 18 rfl) ?_
      refine zr_ladd (eX1_diagonalOf 19 rfl) ?_
      refine v_letj (fun x45 => ?_)
      refine zr_lstore_n (ls2 := [some (.ref a0, 1), some (.int x1, 0), none, some (.long x45, 0), none, some (.int x41, 0), none, none, none]) (eX1_diagonalOf 20 rfl) rfl (Nat.le_of_ble_eq_true rfl) rfl ?_
      refine zr_iinc (ls2 := [some (.ref a0, 1), some (.int x1, 0), none, some (.long x45, 0), none, some (.int (x41 + 1), 0), none, none, none]) (eX1_diagonalOf 21 rfl) rfl (Nat.le_of_ble_eq_true rfl) zk_iconst_1 rfl ?_
      refine zr_goto (eX1_diagonalOf 22 rfl) (t := 10) (by decide) ?_
      exact v_drop [true, true, false, true, false, true, false, false, false] rfl (hk42 x45 (x41 + 1))
def gX1_onRings_J1 : Int64 → Zh → Option (Int32 × Zh) :=
  fun (x21 : Int64) (h1 : Zh) => (if (1000000007 : Int64) = 0 then none else (some ((((x21 - x21 / 1000000007 * 1000000007) : Int64).toInt32), h1)))
def gX1_onRings_J2 (a0 : Nat) (x2 : Int32) (x3 : Int32) (x23 : Int64) (x24 : Int32) (k25 : Int64 → Int32 → Zh → Option (Int32 × Zh)) (x26 : Int32) : Zh → Option (Int32 × Zh) :=
  fun (h5 : Zh) => zbi (gX1_timesCounted x2 x24) (fun x28 => zbJ (gX1_diagonalOf h5 a0 x26 x3) (fun x29 h6 => zlt (x23 + (((x28 : Int32).toInt64) * x29)) (fun x30 => k25 x30 (x24 + 1) h6)))
def gX1_onRings_J3 (x32 : Int32) (k33 : Int32 → Zh → Option (Int32 × Zh)) : Zh → Option (Int32 × Zh) :=
  fun (h8 : Zh) => k33 (x32 + 1) h8
def gX1_onRings_L4 (a0 : Nat) (x26 : Int32) (x32 : Int32) (k34 : Zh → Option (Int32 × Zh)) : (Int32 → Zh → Option (Int32 × Zh)) → Int32 → Zh → Option (Int32 × Zh) :=
  fun (k36 : Int32 → Zh → Option (Int32 × Zh)) (x35 : Int32) (h9 : Zh) => (if (x26 : Int32) ≤ x35 then k34 h9
  else zlt (zR h9 a0 1) (fun r37 => zlt (zR h9 a0 1) (fun r38 => Option.bind r38 (fun a39 => zg (zin ((x32 * 20) + x35) (zL h9 a39)) (zbj (gJ9_floorMod_f86c9 (zJ h9 a39 (zx ((x32 * 20) + x35))) 1000000007) (fun x40 => Option.bind r37 (fun a41 => zg (zin ((x32 * 20) + x35) (zL h9 a41)) (zlt (zsJ h9 a41 (zx ((x32 * 20) + x35)) x40) (fun (h10 : Zh) => k36 (x35 + 1) h10)))))))))
def gX1_onRings_L5 (a0 : Nat) (x26 : Int32) (k31 : Zh → Option (Int32 × Zh)) : (Int32 → Zh → Option (Int32 × Zh)) → Int32 → Zh → Option (Int32 × Zh) :=
  fun (k33 : Int32 → Zh → Option (Int32 × Zh)) (x32 : Int32) (h7 : Zh) => (if (x26 : Int32) ≤ x32 then k31 h7
  else zjn (gX1_onRings_J3 x32 k33) (fun (k34 : Zh → Option (Int32 × Zh)) =>
  zlp (fun (_ : Int32) (_ : Zh) => (none : Option (Int32 × Zh))) (gX1_onRings_L4 a0 x26 x32 k34) zFU 0 h7))
def gX1_onRings_L6 (a0 : Nat) (r1 : Option Nat) (x2 : Int32) (x3 : Int32) (k22 : Int64 → Zh → Option (Int32 × Zh)) : (Int64 → Int32 → Zh → Option (Int32 × Zh)) → Int64 → Int32 → Zh → Option (Int32 × Zh) :=
  fun (k25 : Int64 → Int32 → Zh → Option (Int32 × Zh)) (x23 : Int64) (x24 : Int32) (h2 : Zh) => (if (x2 : Int32) < (2 * x24) then k22 x23 h2
  else zbI (gX1_gather h2 a0 x2 x24) (fun x26 h3 => zlt (zR h3 a0 1) (fun r27 => zbV (gX1_fillBlock h3 a0 r1 x2 x26 r27) (fun h4 => zjn (gX1_onRings_J2 a0 x2 x3 x23 x24 k25 x26) (fun (k31 : Zh → Option (Int32 × Zh)) =>
  zlp (fun (_ : Int32) (_ : Zh) => (none : Option (Int32 × Zh))) (gX1_onRings_L5 a0 x26 k31) zFU 0 h4)))))
def gX1_onRings (h : Zh) (a0 : Nat) (r1 : Option Nat) (x2 : Int32) (x3 : Int32) : Option (Int32 × Zh) :=
  zjn gX1_onRings_J1 (fun (k22 : Int64 → Zh → Option (Int32 × Zh)) =>
  zlp (fun (_ : Int64) (_ : Int32) (_ : Zh) => (none : Option (Int32 × Zh))) (gX1_onRings_L6 a0 r1 x2 x3 k22) zFU 0 0 h)
set_option maxRecDepth 20000 in
theorem cX1_onRings_ok (l : Launch) (h : Zh) (a0 : Nat) (r1 : Option Nat) (x2 : Int32) (x3 : Int32) : Zc l yX1_onRings mX1_onRings 0 h [(.ref a0, 1), (va_rf r1, 4), (.int x2, 0), (.int x3, 0)] ((gX1_onRings h a0 r1 x2 x3).map zoI) := by
  refine zc_of2 (ls := [some (.ref a0, 1), some (va_rf r1, 4), some (.int x2, 0), some (.int x3, 0), none, none, none, none, none, none]) (j := 6) (by decide +kernel) rfl rfl (zEn_ca (zEn_cr (zEn_ci (zEn_ci rfl)))) (Nat.le_of_ble_eq_true rfl) rfl ?_
  unfold gX1_onRings
  refine zr_lconst (eX1_onRings 0 rfl) zk_lconst_0 ?_
  refine zr_lstore (ls2 := [some (.ref a0, 1), some (va_rf r1, 4), some (.int x2, 0), some (.int x3, 0), some (.long 0, 0), none, none, none, none, none]) (eX1_onRings 1 rfl) (Nat.le_of_ble_eq_true rfl) rfl ?_
  refine zr_iconst (eX1_onRings 2 rfl) zk_iconst_0 ?_
  refine zr_istore (ls2 := [some (.ref a0, 1), some (va_rf r1, 4), some (.int x2, 0), some (.int x3, 0), some (.long 0, 0), none, some (.int 0, 0), none, none, none]) (eX1_onRings 3 rfl) (Nat.le_of_ble_eq_true rfl) rfl ?_
  refine v_jn (fun (k22 : Int64 → Zh → Option (Int32 × Zh)) => ∀ (x21 : Int64) (h1 : Zh), V l mX1_onRings (zN h) (zS h) 0 zoI 125 [none, none, none, none, some (.long x21, 0), none, none, none, none, none] [] h1 (k22 x21 h1)) ?_ ?_
  · intro x21 h1
    unfold gX1_onRings_J1
    refine zr_lload (eX1_onRings 67 rfl) rfl ?_
    refine zr_ldc2 (eX1_onRings 68 rfl) zw_703 ?_
    refine zr_lrem (eX1_onRings 69 rfl) ?_
    refine zr_l2i (eX1_onRings 70 rfl) ?_
    exact zr_iret rfl rfl (eX1_onRings 71 rfl)
  intro k22 hk22
  refine v_drop [true, true, true, true, true, false, true, false, false, false] rfl ?_
  refine zlp_ind (fun (k25 : Int64 → Int32 → Zh → Option (Int32 × Zh)) => ∀ (x23 : Int64) (x24 : Int32) (h2 : Zh), V l mX1_onRings (zN h) (zS h) 0 zoI 6 [some (.ref a0, 1), some (va_rf r1, 4), some (.int x2, 0), some (.int x3, 0), some (.long x23, 0), none, some (.int x24, 0), none, none, none] [] h2 (k25 x23 x24 h2)) ?_ ?_ 0 0 h
  · exact fun _ _ _ => v_none
  intro k25 hk25 x23 x24 h2
  unfold gX1_onRings_L6
  refine zr_iconst (eX1_onRings 4 rfl) zk_iconst_2 ?_
  refine zr_iload (eX1_onRings 5 rfl) rfl ?_
  refine zr_imul (eX1_onRings 6 rfl) ?_
  refine zr_iload_n (eX1_onRings 7 rfl) rfl rfl ?_
  refine zr_icmp_gt (eX1_onRings 8 rfl) (t := 125) (by decide) ?_ ?_
  · exact v_drop [false, false, false, false, true, false, false, false, false, false] rfl (hk22 x23 h2)
  · refine zr_aload_n (r := (some a0)) (eX1_onRings 9 rfl) rfl rfl ?_
    refine zr_iload_n (eX1_onRings 10 rfl) rfl rfl ?_
    refine zr_iload (eX1_onRings 11 rfl) rfl ?_
    refine zr_invV_I (as := [(.int x2, 0), (.int x24, 0)]) (cX1_gather_ok l h2 a0 x2 x24) rfl rfl ⟨by decide, by decide, by decide⟩ zcd_X1_gather rfl ⟨zw_679, zw_680, zw_681, zw_71⟩ ⟨Nat.le_of_ble_eq_true rfl, Nat.le_of_ble_eq_true rfl⟩ rfl (Nat.le_of_ble_eq_true rfl) (eX1_onRings 12 rfl) (fun x26 h3 => ?_)
    refine zr_istore (ls2 := [some (.ref a0, 1), some (va_rf r1, 4), some (.int x2, 0), some (.int x3, 0), some (.long x23, 0), none, some (.int x24, 0), some (.int x26, 0), none, none]) (eX1_onRings 13 rfl) (Nat.le_of_ble_eq_true rfl) rfl ?_
    refine zr_aload_n (r := (some a0)) (eX1_onRings 14 rfl) rfl rfl ?_
    refine zr_aload_n (r := r1) (eX1_onRings 15 rfl) rfl rfl ?_
    refine zr_iload_n (eX1_onRings 16 rfl) rfl rfl ?_
    refine zr_iload (eX1_onRings 17 rfl) rfl ?_
    refine zr_aload_n (r := (some a0)) (eX1_onRings 18 rfl) rfl rfl ?_
    refine zr_getR2 zf_RX1_15 (τ2 := 21) rfl (eX1_onRings 19 rfl) ?_
    refine v_letr (fun r27 => ?_)
    refine zr_invV_V (as := [(va_rf r1, 4), (.int x2, 0), (.int x26, 0), (va_rf r27, 21)]) (cX1_fillBlock_ok l h3 a0 r1 x2 x26 r27) rfl rfl ⟨by decide, by decide, by decide⟩ zcd_X1_fillBlock rfl ⟨zw_684, zw_685, zw_686, zw_71⟩ ⟨Nat.le_of_ble_eq_true rfl, Nat.le_of_ble_eq_true rfl⟩ rfl (Nat.le_of_ble_eq_true rfl) (eX1_onRings 20 rfl) (fun h4 => ?_)
    refine zr_iconst (eX1_onRings 21 rfl) zk_iconst_0 ?_
    refine zr_istore (ls2 := [some (.ref a0, 1), some (va_rf r1, 4), some (.int x2, 0), some (.int x3, 0), some (.long x23, 0), none, some (.int x24, 0), some (.int x26, 0), some (.int 0, 0), none]) (eX1_onRings 22 rfl) (Nat.le_of_ble_eq_true rfl) rfl ?_
    refine v_jn (fun (k31 : Zh → Option (Int32 × Zh)) => ∀ (h5 : Zh), V l mX1_onRings (zN h) (zS h) 0 zoI 99 [some (.ref a0, 1), some (va_rf r1, 4), some (.int x2, 0), some (.int x3, 0), some (.long x23, 0), none, some (.int x24, 0), some (.int x26, 0), none, none] [] h5 (k31 h5)) ?_ ?_
    · intro h5
      unfold gX1_onRings_J2
      refine zr_lload (eX1_onRings 53 rfl) rfl ?_
      refine zr_iload_n (eX1_onRings 54 rfl) rfl rfl ?_
      refine zr_iload (eX1_onRings 55 rfl) rfl ?_
      refine zr_invS_i (as := [(.int x2, 0), (.int x24, 0)]) (cX1_timesCounted_ok l h5 x2 x24) rfl zcd_X1_timesCounted ⟨zw_692, zw_693, zw_71⟩ ⟨Nat.le_of_ble_eq_true rfl, Nat.le_of_ble_eq_true rfl⟩ rfl (Nat.le_of_ble_eq_true rfl) (eX1_onRings 56 rfl) (fun x28 => ?_)
      refine zr_i2l (eX1_onRings 57 rfl) ?_
      refine zr_aload_n (r := (some a0)) (eX1_onRings 58 rfl) rfl rfl ?_
      refine zr_iload (eX1_onRings 59 rfl) rfl ?_
      refine zr_iload_n (eX1_onRings 60 rfl) rfl rfl ?_
      refine zr_invV_J (as := [(.int x26, 0), (.int x3, 0)]) (cX1_diagonalOf_ok l h5 a0 x26 x3) rfl rfl ⟨by decide, by decide, by decide⟩ zcd_X1_diagonalOf rfl ⟨zw_707, zw_708, zw_709, zw_71⟩ ⟨Nat.le_of_ble_eq_true rfl, Nat.le_of_ble_eq_true rfl⟩ rfl (Nat.le_of_ble_eq_true rfl) (eX1_onRings 61 rfl) (fun x29 h6 => ?_)
      refine zr_lmul (eX1_onRings 62 rfl) ?_
      refine zr_ladd (eX1_onRings 63 rfl) ?_
      refine v_letj (fun x30 => ?_)
      refine zr_lstore (ls2 := [some (.ref a0, 1), some (va_rf r1, 4), some (.int x2, 0), some (.int x3, 0), some (.long x30, 0), none, some (.int x24, 0), some (.int x26, 0), none, none]) (eX1_onRings 64 rfl) (Nat.le_of_ble_eq_true rfl) rfl ?_
      refine zr_iinc (ls2 := [some (.ref a0, 1), some (va_rf r1, 4), some (.int x2, 0), some (.int x3, 0), some (.long x30, 0), none, some (.int (x24 + 1), 0), some (.int x26, 0), none, none]) (eX1_onRings 65 rfl) rfl (Nat.le_of_ble_eq_true rfl) zk_iconst_1 rfl ?_
      refine zr_goto (eX1_onRings 66 rfl) (t := 6) (by decide) ?_
      exact v_drop [true, true, true, true, true, false, true, false, false, false] rfl (hk25 x30 (x24 + 1) h6)
    intro k31 hk31
    refine v_drop [true, true, true, true, true, false, true, true, true, false] rfl ?_
    refine zlp_ind (fun (k33 : Int32 → Zh → Option (Int32 × Zh)) => ∀ (x32 : Int32) (h7 : Zh), V l mX1_onRings (zN h) (zS h) 0 zoI 38 [some (.ref a0, 1), some (va_rf r1, 4), some (.int x2, 0), some (.int x3, 0), some (.long x23, 0), none, some (.int x24, 0), some (.int x26, 0), some (.int x32, 0), none] [] h7 (k33 x32 h7)) ?_ ?_ 0 h4
    · exact fun _ _ => v_none
    intro k33 hk33 x32 h7
    unfold gX1_onRings_L5
    refine zr_iload (eX1_onRings 23 rfl) rfl ?_
    refine zr_iload (eX1_onRings 24 rfl) rfl ?_
    refine zr_icmp_ge (eX1_onRings 25 rfl) (t := 99) (by decide) ?_ ?_
    · exact v_drop [true, true, true, true, true, false, true, true, false, false] rfl (hk31 h7)
    · refine zr_iconst (eX1_onRings 26 rfl) zk_iconst_0 ?_
      refine zr_istore (ls2 := [some (.ref a0, 1), some (va_rf r1, 4), some (.int x2, 0), some (.int x3, 0), some (.long x23, 0), none, some (.int x24, 0), some (.int x26, 0), some (.int x32, 0), some (.int 0, 0)]) (eX1_onRings 27 rfl) (Nat.le_of_ble_eq_true rfl) rfl ?_
      refine v_jn (fun (k34 : Zh → Option (Int32 × Zh)) => ∀ (h8 : Zh), V l mX1_onRings (zN h) (zS h) 0 zoI 93 [some (.ref a0, 1), some (va_rf r1, 4), some (.int x2, 0), some (.int x3, 0), some (.long x23, 0), none, some (.int x24, 0), some (.int x26, 0), some (.int x32, 0), none] [] h8 (k34 h8)) ?_ ?_
      · intro h8
        unfold gX1_onRings_J3
        refine zr_iinc (ls2 := [some (.ref a0, 1), some (va_rf r1, 4), some (.int x2, 0), some (.int x3, 0), some (.long x23, 0), none, some (.int x24, 0), some (.int x26, 0), some (.int (x32 + 1), 0), none]) (eX1_onRings 51 rfl) rfl (Nat.le_of_ble_eq_true rfl) zk_iconst_1 rfl ?_
        refine zr_goto (eX1_onRings 52 rfl) (t := 38) (by decide) ?_
        exact v_drop [true, true, true, true, true, false, true, true, true, false] rfl (hk33 (x32 + 1) h8)
      intro k34 hk34
      refine v_drop [true, true, true, true, true, false, true, true, true, true] rfl ?_
      refine zlp_ind (fun (k36 : Int32 → Zh → Option (Int32 × Zh)) => ∀ (x35 : Int32) (h9 : Zh), V l mX1_onRings (zN h) (zS h) 0 zoI 48 [some (.ref a0, 1), some (va_rf r1, 4), some (.int x2, 0), some (.int x3, 0), some (.long x23, 0), none, some (.int x24, 0), some (.int x26, 0), some (.int x32, 0), some (.int x35, 0)] [] h9 (k36 x35 h9)) ?_ ?_ 0 h7
      · exact fun _ _ => v_none
      intro k36 hk36 x35 h9
      unfold gX1_onRings_L4
      refine zr_iload (eX1_onRings 28 rfl) rfl ?_
      refine zr_iload (eX1_onRings 29 rfl) rfl ?_
      refine zr_icmp_ge (eX1_onRings 30 rfl) (t := 93) (by decide) ?_ ?_
      · exact v_drop [true, true, true, true, true, false, true, true, true, false] rfl (hk34 h9)
      · refine zr_aload_n (r := (some a0)) (eX1_onRings 31 rfl) rfl rfl ?_
        refine zr_getR2 zf_RX1_15 (τ2 := 21) rfl (eX1_onRings 32 rfl) ?_
        refine v_letr (fun r37 => ?_)
        refine zr_iload (eX1_onRings 33 rfl) rfl ?_
        refine zr_bipush (eX1_onRings 34 rfl) zk_bipush_20 ?_
        refine zr_imul (eX1_onRings 35 rfl) ?_
        refine zr_iload (eX1_onRings 36 rfl) rfl ?_
        refine zr_iadd (eX1_onRings 37 rfl) ?_
        refine zr_aload_n (r := (some a0)) (eX1_onRings 38 rfl) rfl rfl ?_
        refine zr_getR2 zf_RX1_15 (τ2 := 21) rfl (eX1_onRings 39 rfl) ?_
        refine v_letr (fun r38 => ?_)
        refine zr_iload (eX1_onRings 40 rfl) rfl ?_
        refine zr_bipush (eX1_onRings 41 rfl) zk_bipush_20 ?_
        refine zr_imul (eX1_onRings 42 rfl) ?_
        refine zr_iload (eX1_onRings 43 rfl) rfl ?_
        refine zr_iadd (eX1_onRings 44 rfl) ?_
        refine v_nn (fun a39 ea39 => ?_)
        subst ea39
        refine zr_lald (eX1_onRings 45 rfl) ?_
        refine zr_ldc2 (eX1_onRings 46 rfl) zw_703 ?_
        refine zr_invS_j (as := [(.long (zJ h9 a39 (zx ((x32 * 20) + x35))), 0), (.long 1000000007, 0)]) (cJ9_floorMod_f86c9_ok l h9 (zJ h9 a39 (zx ((x32 * 20) + x35))) 1000000007) rfl zcd_J9_floorMod_f86c9 ⟨zw_704, zw_705, zw_67⟩ ⟨Nat.le_of_ble_eq_true rfl, Nat.le_of_ble_eq_true rfl⟩ rfl (Nat.le_of_ble_eq_true rfl) (eX1_onRings 47 rfl) (fun x40 => ?_)
        refine v_nn (fun a41 ea41 => ?_)
        subst ea41
        refine zr_last (eX1_onRings 48 rfl) ?_
        refine v_leth (fun h10 => ?_)
        refine zr_iinc (ls2 := [some (.ref a0, 1), some (va_rf r1, 4), some (.int x2, 0), some (.int x3, 0), some (.long x23, 0), none, some (.int x24, 0), some (.int x26, 0), some (.int x32, 0), some (.int (x35 + 1), 0)]) (eX1_onRings 49 rfl) rfl (Nat.le_of_ble_eq_true rfl) zk_iconst_1 rfl ?_
        refine zr_goto (eX1_onRings 50 rfl) (t := 48) (by decide) ?_
        exact v_drop [true, true, true, true, true, false, true, true, true, true] rfl (hk36 (x35 + 1) h10)
def gX1_waysTo_J1 (x22 : Int32) (k23 : Int64 → Int32 → Option (Int64)) : Int64 → Option (Int64) :=
  fun (x25 : Int64) => k23 x25 (x22 + 1)
def gX1_waysTo_L2 (h : Zh) (a0 : Nat) (r1 : Option Nat) (x2 : Int32) (x3 : Int32) (x4 : Int32) : (Int64 → Int32 → Option (Int64)) → Int64 → Int32 → Option (Int64) :=
  fun (k23 : Int64 → Int32 → Option (Int64)) (x21 : Int64) (x22 : Int32) => (if (((1 : Int32) <<< (x2 &&& 31)) : Int32) ≤ x22 then (some x21)
  else zbi (gJ6_bitCount_0f7a4 x22) (fun x24 => zjn (gX1_waysTo_J1 x22 k23) (fun (k26 : Int64 → Option (Int64)) =>
  (if (x24 : Int32) = x4 then zlt (zR h a0 5) (fun r27 => Option.bind r27 (fun a28 => zg (zin x22 (zL h a28)) (zbj (gX1_along h r1 x2 x22 x3 1 0) (fun x29 => zbj (gJ9_floorMod_f86c9 (x21 + ((zJ h a28 (zx x22)) * x29)) 1000000007) (fun x30 => k26 x30)))))
  else k26 x21))))
def gX1_waysTo (h : Zh) (a0 : Nat) (r1 : Option Nat) (x2 : Int32) (x3 : Int32) (x4 : Int32) : Option (Int64) :=
  zlp (fun (_ : Int64) (_ : Int32) => (none : Option (Int64))) (gX1_waysTo_L2 h a0 r1 x2 x3 x4) zFU 0 0
set_option maxRecDepth 20000 in
theorem cX1_waysTo_ok (l : Launch) (h : Zh) (a0 : Nat) (r1 : Option Nat) (x2 : Int32) (x3 : Int32) (x4 : Int32) : Zc l yX1_waysTo mX1_waysTo 0 h [(.ref a0, 1), (va_rf r1, 4), (.int x2, 0), (.int x3, 0), (.int x4, 0)] ((gX1_waysTo h a0 r1 x2 x3 x4).map (zoj h)) := by
  refine zc_of2 (ls := [some (.ref a0, 1), some (va_rf r1, 4), some (.int x2, 0), some (.int x3, 0), some (.int x4, 0), none, none, none]) (j := 3) (by decide +kernel) rfl rfl (zEn_ca (zEn_cr (zEn_ci (zEn_ci (zEn_ci rfl))))) (Nat.le_of_ble_eq_true rfl) rfl ?_
  unfold gX1_waysTo
  refine zr_lconst (eX1_waysTo 0 rfl) zk_lconst_0 ?_
  refine zr_lstore (ls2 := [some (.ref a0, 1), some (va_rf r1, 4), some (.int x2, 0), some (.int x3, 0), some (.int x4, 0), some (.long 0, 0), none, none]) (eX1_waysTo 1 rfl) (Nat.le_of_ble_eq_true rfl) rfl ?_
  refine zr_iconst (eX1_waysTo 2 rfl) zk_iconst_0 ?_
  refine zr_istore (ls2 := [some (.ref a0, 1), some (va_rf r1, 4), some (.int x2, 0), some (.int x3, 0), some (.int x4, 0), some (.long 0, 0), none, some (.int 0, 0)]) (eX1_waysTo 3 rfl) (Nat.le_of_ble_eq_true rfl) rfl ?_
  refine v_drop [true, true, true, true, true, true, false, true] rfl ?_
  refine zlp_ind (fun (k23 : Int64 → Int32 → Option (Int64)) => ∀ (x21 : Int64) (x22 : Int32), V l mX1_waysTo (zN h) (zS h) 0 (zoj h) 6 [some (.ref a0, 1), some (va_rf r1, 4), some (.int x2, 0), some (.int x3, 0), some (.int x4, 0), some (.long x21, 0), none, some (.int x22, 0)] [] h (k23 x21 x22)) ?_ ?_ 0 0
  · exact fun _ _ => v_none
  intro k23 hk23 x21 x22
  unfold gX1_waysTo_L2
  refine zr_iload (eX1_waysTo 4 rfl) rfl ?_
  refine zr_iconst (eX1_waysTo 5 rfl) zk_iconst_1 ?_
  refine zr_iload_n (eX1_waysTo 6 rfl) rfl rfl ?_
  refine zr_ishl (eX1_waysTo 7 rfl) ?_
  refine zr_icmp_ge (eX1_waysTo 8 rfl) (t := 59) (by decide) ?_ ?_
  · refine zr_lload (eX1_waysTo 32 rfl) rfl ?_
    exact zr_lret rfl rfl (eX1_waysTo 33 rfl)
  · refine zr_iload (eX1_waysTo 9 rfl) rfl ?_
    refine zr_invS_i (as := [(.int x22, 0)]) (cJ6_bitCount_0f7a4_ok l h x22) rfl zcd_J6_bitCount_0f7a4 ⟨zw_683, zw_252, zw_63⟩ ⟨Nat.le_of_ble_eq_true rfl, Nat.le_of_ble_eq_true rfl⟩ rfl (Nat.le_of_ble_eq_true rfl) (eX1_waysTo 10 rfl) (fun x24 => ?_)
    refine zr_iload (eX1_waysTo 11 rfl) rfl ?_
    refine v_jn (fun (k26 : Int64 → Option (Int64)) => ∀ (x25 : Int64), V l mX1_waysTo (zN h) (zS h) 0 (zoj h) 53 [some (.ref a0, 1), some (va_rf r1, 4), some (.int x2, 0), some (.int x3, 0), some (.int x4, 0), some (.long x25, 0), none, some (.int x22, 0)] [] h (k26 x25)) ?_ ?_
    · intro x25
      unfold gX1_waysTo_J1
      refine zr_iinc (ls2 := [some (.ref a0, 1), some (va_rf r1, 4), some (.int x2, 0), some (.int x3, 0), some (.int x4, 0), some (.long x25, 0), none, some (.int (x22 + 1), 0)]) (eX1_waysTo 30 rfl) rfl (Nat.le_of_ble_eq_true rfl) zk_iconst_1 rfl ?_
      refine zr_goto (eX1_waysTo 31 rfl) (t := 6) (by decide) ?_
      exact v_drop [true, true, true, true, true, true, false, true] rfl (hk23 x25 (x22 + 1))
    intro k26 hk26
    refine zr_icmp_ne (eX1_waysTo 12 rfl) (t := 53) (by decide) ?_ ?_
    · exact v_drop [true, true, true, true, true, true, false, true] rfl (hk26 x21)
    · refine zr_lload (eX1_waysTo 13 rfl) rfl ?_
      refine zr_aload_n (r := (some a0)) (eX1_waysTo 14 rfl) rfl rfl ?_
      refine zr_getR2 zf_RX1_28 (τ2 := 21) rfl (eX1_waysTo 15 rfl) ?_
      refine v_letr (fun r27 => ?_)
      refine zr_iload (eX1_waysTo 16 rfl) rfl ?_
      refine v_nn (fun a28 ea28 => ?_)
      subst ea28
      refine zr_lald (eX1_waysTo 17 rfl) ?_
      refine zr_aload_n (r := r1) (eX1_waysTo 18 rfl) rfl rfl ?_
      refine zr_iload_n (eX1_waysTo 19 rfl) rfl rfl ?_
      refine zr_iload (eX1_waysTo 20 rfl) rfl ?_
      refine zr_iload_n (eX1_waysTo 21 rfl) rfl rfl ?_
      refine zr_iconst (eX1_waysTo 22 rfl) zk_iconst_1 ?_
      refine zr_iconst (eX1_waysTo 23 rfl) zk_iconst_0 ?_
      refine zr_invS_j (as := [(va_rf r1, 4), (.int x2, 0), (.int x22, 0), (.int x3, 0), (.int 1, 0), (.int 0, 0)]) (cX1_along_ok l h r1 x2 x22 x3 1 0) rfl zcd_X1_along ⟨zw_623, zw_624, zw_71⟩ ⟨Nat.le_of_ble_eq_true rfl, Nat.le_of_ble_eq_true rfl⟩ rfl (Nat.le_of_ble_eq_true rfl) (eX1_waysTo 24 rfl) (fun x29 => ?_)
      refine zr_lmul (eX1_waysTo 25 rfl) ?_
      refine zr_ladd (eX1_waysTo 26 rfl) ?_
      refine zr_ldc2 (eX1_waysTo 27 rfl) zw_703 ?_
      refine zr_invS_j (as := [(.long (x21 + ((zJ h a28 (zx x22)) * x29)), 0), (.long 1000000007, 0)]) (cJ9_floorMod_f86c9_ok l h (x21 + ((zJ h a28 (zx x22)) * x29)) 1000000007) rfl zcd_J9_floorMod_f86c9 ⟨zw_704, zw_705, zw_67⟩ ⟨Nat.le_of_ble_eq_true rfl, Nat.le_of_ble_eq_true rfl⟩ rfl (Nat.le_of_ble_eq_true rfl) (eX1_waysTo 28 rfl) (fun x30 => ?_)
      refine zr_lstore (ls2 := [some (.ref a0, 1), some (va_rf r1, 4), some (.int x2, 0), some (.int x3, 0), some (.int x4, 0), some (.long x30, 0), none, some (.int x22, 0)]) (eX1_waysTo 29 rfl) (Nat.le_of_ble_eq_true rfl) rfl ?_
      exact v_drop [true, true, true, true, true, true, false, true] rfl (hk26 x30)
def gX1_betweenWalls_J1 (a0 : Nat) (x2 : Int32) : Zh → Option (Int32 × Zh) :=
  fun (h3 : Zh) => zlt (zR h3 a0 5) (fun r24 => Option.bind r24 (fun a25 => zg (zin (((1 : Int32) <<< (x2 &&& 31)) - 1) (zL h3 a25)) ((some ((((zJ h3 a25 (zx (((1 : Int32) <<< (x2 &&& 31)) - 1))) : Int64).toInt32), h3)))))
def gX1_betweenWalls_J2 (x27 : Int32) (k28 : Int32 → Zh → Option (Int32 × Zh)) : Zh → Option (Int32 × Zh) :=
  fun (h5 : Zh) => k28 (x27 + 1) h5
def gX1_betweenWalls_J3 (x30 : Int32) (k31 : Int32 → Zh → Option (Int32 × Zh)) : Zh → Option (Int32 × Zh) :=
  fun (h7 : Zh) => k31 (x30 + 1) h7
def gX1_betweenWalls_L4 (a0 : Nat) (r1 : Option Nat) (x2 : Int32) (x27 : Int32) (k29 : Zh → Option (Int32 × Zh)) : (Int32 → Zh → Option (Int32 × Zh)) → Int32 → Zh → Option (Int32 × Zh) :=
  fun (k31 : Int32 → Zh → Option (Int32 × Zh)) (x30 : Int32) (h6 : Zh) => (if (((1 : Int32) <<< (x2 &&& 31)) : Int32) ≤ x30 then k29 h6
  else zbi (gJ6_bitCount_0f7a4 x30) (fun x32 => zjn (gX1_betweenWalls_J3 x30 k31) (fun (k33 : Zh → Option (Int32 × Zh)) =>
  (if (x32 : Int32) = (x27 + 1) then zlt (zR h6 a0 5) (fun r34 => zbj (gX1_waysTo h6 a0 r1 x2 x30 x27) (fun x35 => Option.bind r34 (fun a36 => zg (zin x30 (zL h6 a36)) (zlt (zsJ h6 a36 (zx x30) x35) (fun (h8 : Zh) => k33 h8)))))
  else k33 h6))))
def gX1_betweenWalls_L5 (a0 : Nat) (r1 : Option Nat) (x2 : Int32) (k26 : Zh → Option (Int32 × Zh)) : (Int32 → Zh → Option (Int32 × Zh)) → Int32 → Zh → Option (Int32 × Zh) :=
  fun (k28 : Int32 → Zh → Option (Int32 × Zh)) (x27 : Int32) (h4 : Zh) => (if (x2 : Int32) ≤ x27 then k26 h4
  else zjn (gX1_betweenWalls_J2 x27 k28) (fun (k29 : Zh → Option (Int32 × Zh)) =>
  zlp (fun (_ : Int32) (_ : Zh) => (none : Option (Int32 × Zh))) (gX1_betweenWalls_L4 a0 r1 x2 x27 k29) zFU 0 h4))
def gX1_betweenWalls (h : Zh) (a0 : Nat) (r1 : Option Nat) (x2 : Int32) : Option (Int32 × Zh) :=
  zlt (zR h a0 5) (fun r21 => zbV (gJ7_fill_d0a16 h r21 0) (fun h1 => zlt (zR h1 a0 5) (fun r22 => Option.bind r22 (fun a23 => zg (zin 0 (zL h1 a23)) (zlt (zsJ h1 a23 (zx 0) 1) (fun (h2 : Zh) => zjn (gX1_betweenWalls_J1 a0 x2) (fun (k26 : Zh → Option (Int32 × Zh)) =>
  zlp (fun (_ : Int32) (_ : Zh) => (none : Option (Int32 × Zh))) (gX1_betweenWalls_L5 a0 r1 x2 k26) zFU 0 h2)))))))
set_option maxRecDepth 20000 in
theorem cX1_betweenWalls_ok (l : Launch) (h : Zh) (a0 : Nat) (r1 : Option Nat) (x2 : Int32) : Zc l yX1_betweenWalls mX1_betweenWalls 0 h [(.ref a0, 1), (va_rf r1, 4), (.int x2, 0)] ((gX1_betweenWalls h a0 r1 x2).map zoI) := by
  refine zc_of2 (ls := [some (.ref a0, 1), some (va_rf r1, 4), some (.int x2, 0), none, none]) (j := 2) (by decide +kernel) rfl rfl (zEn_ca (zEn_cr (zEn_ci rfl))) (Nat.le_of_ble_eq_true rfl) rfl ?_
  unfold gX1_betweenWalls
  refine zr_aload_n (r := (some a0)) (eX1_betweenWalls 0 rfl) rfl rfl ?_
  refine zr_getR2 zf_RX1_28 (τ2 := 21) rfl (eX1_betweenWalls 1 rfl) ?_
  refine v_letr (fun r21 => ?_)
  refine zr_lconst (eX1_betweenWalls 2 rfl) zk_lconst_0 ?_
  refine zr_invS_V (as := [(va_rf r21, 21), (.long 0, 0)]) (cJ7_fill_d0a16_ok l h r21 0) rfl zcd_J7_fill_d0a16 ⟨zw_726, zw_391, zw_65⟩ ⟨Nat.le_of_ble_eq_true rfl, Nat.le_of_ble_eq_true rfl⟩ rfl (Nat.le_of_ble_eq_true rfl) (eX1_betweenWalls 3 rfl) (fun h1 => ?_)
  refine zr_aload_n (r := (some a0)) (eX1_betweenWalls 4 rfl) rfl rfl ?_
  refine zr_getR2 zf_RX1_28 (τ2 := 21) rfl (eX1_betweenWalls 5 rfl) ?_
  refine v_letr (fun r22 => ?_)
  refine zr_iconst (eX1_betweenWalls 6 rfl) zk_iconst_0 ?_
  refine zr_lconst (eX1_betweenWalls 7 rfl) zk_lconst_1 ?_
  refine v_nn (fun a23 ea23 => ?_)
  subst ea23
  refine zr_last (eX1_betweenWalls 8 rfl) ?_
  refine v_leth (fun h2 => ?_)
  refine zr_iconst (eX1_betweenWalls 9 rfl) zk_iconst_0 ?_
  refine zr_istore_n (ls2 := [some (.ref a0, 1), some (va_rf r1, 4), some (.int x2, 0), some (.int 0, 0), none]) (eX1_betweenWalls 10 rfl) rfl (Nat.le_of_ble_eq_true rfl) rfl ?_
  refine v_jn (fun (k26 : Zh → Option (Int32 × Zh)) => ∀ (h3 : Zh), V l mX1_betweenWalls (zN h) (zS h) 0 zoI 72 [some (.ref a0, 1), none, some (.int x2, 0), none, none] [] h3 (k26 h3)) ?_ ?_
  · intro h3
    unfold gX1_betweenWalls_J1
    refine zr_aload_n (r := (some a0)) (eX1_betweenWalls 41 rfl) rfl rfl ?_
    refine zr_getR2 zf_RX1_28 (τ2 := 21) rfl (eX1_betweenWalls 42 rfl) ?_
    refine v_letr (fun r24 => ?_)
    refine zr_iconst (eX1_betweenWalls 43 rfl) zk_iconst_1 ?_
    refine zr_iload_n (eX1_betweenWalls 44 rfl) rfl rfl ?_
    refine zr_ishl (eX1_betweenWalls 45 rfl) ?_
    refine zr_iconst (eX1_betweenWalls 46 rfl) zk_iconst_1 ?_
    refine zr_isub (eX1_betweenWalls 47 rfl) ?_
    refine v_nn (fun a25 ea25 => ?_)
    subst ea25
    refine zr_lald (eX1_betweenWalls 48 rfl) ?_
    refine zr_l2i (eX1_betweenWalls 49 rfl) ?_
    exact zr_iret rfl rfl (eX1_betweenWalls 50 rfl)
  intro k26 hk26
  refine v_drop [true, true, true, true, false] rfl ?_
  refine zlp_ind (fun (k28 : Int32 → Zh → Option (Int32 × Zh)) => ∀ (x27 : Int32) (h4 : Zh), V l mX1_betweenWalls (zN h) (zS h) 0 zoI 17 [some (.ref a0, 1), some (va_rf r1, 4), some (.int x2, 0), some (.int x27, 0), none] [] h4 (k28 x27 h4)) ?_ ?_ 0 h2
  · exact fun _ _ => v_none
  intro k28 hk28 x27 h4
  unfold gX1_betweenWalls_L5
  refine zr_iload_n (eX1_betweenWalls 11 rfl) rfl rfl ?_
  refine zr_iload_n (eX1_betweenWalls 12 rfl) rfl rfl ?_
  refine zr_icmp_ge (eX1_betweenWalls 13 rfl) (t := 72) (by decide) ?_ ?_
  · exact v_drop [true, false, true, false, false] rfl (hk26 h4)
  · refine zr_iconst (eX1_betweenWalls 14 rfl) zk_iconst_0 ?_
    refine zr_istore (ls2 := [some (.ref a0, 1), some (va_rf r1, 4), some (.int x2, 0), some (.int x27, 0), some (.int 0, 0)]) (eX1_betweenWalls 15 rfl) (Nat.le_of_ble_eq_true rfl) rfl ?_
    refine v_jn (fun (k29 : Zh → Option (Int32 × Zh)) => ∀ (h5 : Zh), V l mX1_betweenWalls (zN h) (zS h) 0 zoI 66 [some (.ref a0, 1), some (va_rf r1, 4), some (.int x2, 0), some (.int x27, 0), none] [] h5 (k29 h5)) ?_ ?_
    · intro h5
      unfold gX1_betweenWalls_J2
      refine zr_iinc (ls2 := [some (.ref a0, 1), some (va_rf r1, 4), some (.int x2, 0), some (.int (x27 + 1), 0), none]) (eX1_betweenWalls 39 rfl) rfl (Nat.le_of_ble_eq_true rfl) zk_iconst_1 rfl ?_
      refine zr_goto (eX1_betweenWalls 40 rfl) (t := 17) (by decide) ?_
      exact v_drop [true, true, true, true, false] rfl (hk28 (x27 + 1) h5)
    intro k29 hk29
    refine v_drop [true, true, true, true, true] rfl ?_
    refine zlp_ind (fun (k31 : Int32 → Zh → Option (Int32 × Zh)) => ∀ (x30 : Int32) (h6 : Zh), V l mX1_betweenWalls (zN h) (zS h) 0 zoI 25 [some (.ref a0, 1), some (va_rf r1, 4), some (.int x2, 0), some (.int x27, 0), some (.int x30, 0)] [] h6 (k31 x30 h6)) ?_ ?_ 0 h4
    · exact fun _ _ => v_none
    intro k31 hk31 x30 h6
    unfold gX1_betweenWalls_L4
    refine zr_iload (eX1_betweenWalls 16 rfl) rfl ?_
    refine zr_iconst (eX1_betweenWalls 17 rfl) zk_iconst_1 ?_
    refine zr_iload_n (eX1_betweenWalls 18 rfl) rfl rfl ?_
    refine zr_ishl (eX1_betweenWalls 19 rfl) ?_
    refine zr_icmp_ge (eX1_betweenWalls 20 rfl) (t := 66) (by decide) ?_ ?_
    · exact v_drop [true, true, true, true, false] rfl (hk29 h6)
    · refine zr_iload (eX1_betweenWalls 21 rfl) rfl ?_
      refine zr_invS_i (as := [(.int x30, 0)]) (cJ6_bitCount_0f7a4_ok l h6 x30) rfl zcd_J6_bitCount_0f7a4 ⟨zw_683, zw_252, zw_63⟩ ⟨Nat.le_of_ble_eq_true rfl, Nat.le_of_ble_eq_true rfl⟩ rfl (Nat.le_of_ble_eq_true rfl) (eX1_betweenWalls 22 rfl) (fun x32 => ?_)
      refine zr_iload_n (eX1_betweenWalls 23 rfl) rfl rfl ?_
      refine zr_iconst (eX1_betweenWalls 24 rfl) zk_iconst_1 ?_
      refine zr_iadd (eX1_betweenWalls 25 rfl) ?_
      refine v_jn (fun (k33 : Zh → Option (Int32 × Zh)) => ∀ (h7 : Zh), V l mX1_betweenWalls (zN h) (zS h) 0 zoI 60 [some (.ref a0, 1), some (va_rf r1, 4), some (.int x2, 0), some (.int x27, 0), some (.int x30, 0)] [] h7 (k33 h7)) ?_ ?_
      · intro h7
        unfold gX1_betweenWalls_J3
        refine zr_iinc (ls2 := [some (.ref a0, 1), some (va_rf r1, 4), some (.int x2, 0), some (.int x27, 0), some (.int (x30 + 1), 0)]) (eX1_betweenWalls 37 rfl) rfl (Nat.le_of_ble_eq_true rfl) zk_iconst_1 rfl ?_
        refine zr_goto (eX1_betweenWalls 38 rfl) (t := 25) (by decide) ?_
        exact v_drop [true, true, true, true, true] rfl (hk31 (x30 + 1) h7)
      intro k33 hk33
      refine zr_icmp_ne (eX1_betweenWalls 26 rfl) (t := 60) (by decide) ?_ ?_
      · exact v_drop [true, true, true, true, true] rfl (hk33 h6)
      · refine zr_aload_n (r := (some a0)) (eX1_betweenWalls 27 rfl) rfl rfl ?_
        refine zr_getR2 zf_RX1_28 (τ2 := 21) rfl (eX1_betweenWalls 28 rfl) ?_
        refine v_letr (fun r34 => ?_)
        refine zr_iload (eX1_betweenWalls 29 rfl) rfl ?_
        refine zr_aload_n (r := (some a0)) (eX1_betweenWalls 30 rfl) rfl rfl ?_
        refine zr_aload_n (r := r1) (eX1_betweenWalls 31 rfl) rfl rfl ?_
        refine zr_iload_n (eX1_betweenWalls 32 rfl) rfl rfl ?_
        refine zr_iload (eX1_betweenWalls 33 rfl) rfl ?_
        refine zr_iload_n (eX1_betweenWalls 34 rfl) rfl rfl ?_
        refine zr_invV_j (as := [(va_rf r1, 4), (.int x2, 0), (.int x30, 0), (.int x27, 0)]) (cX1_waysTo_ok l h6 a0 r1 x2 x30 x27) rfl rfl ⟨by decide, by decide, by decide⟩ zcd_X1_waysTo rfl ⟨zw_727, zw_728, zw_729, zw_71⟩ ⟨Nat.le_of_ble_eq_true rfl, Nat.le_of_ble_eq_true rfl⟩ rfl (Nat.le_of_ble_eq_true rfl) (eX1_betweenWalls 35 rfl) (fun x35 => ?_)
        refine v_nn (fun a36 ea36 => ?_)
        subst ea36
        refine zr_last (eX1_betweenWalls 36 rfl) ?_
        refine v_leth (fun h8 => ?_)
        exact v_drop [true, true, true, true, true] rfl (hk33 h8)
def gX1_apply_J1 (a0 : Nat) (r4 : Option Nat) : Zh → Option (Zh) :=
  fun (h2 : Zh) => zlt (zR h2 a0 8) (fun r22 => Option.bind r22 (fun a23 => Option.bind r4 (fun a24 => zg (zcp h2 a23 0 a24 0 8) (zlt (zcJ h2 a23 (zx 0) a24 (zx 0) (zx 8)) (fun (h3 : Zh) => some h3)))))
def gX1_apply_J2 (x26 : Int32) (k27 : Int32 → Zh → Option (Zh)) : Zh → Option (Zh) :=
  fun (h5 : Zh) => k27 (x26 + 1) h5
def gX1_apply_J3 (x26 : Int32) (x32 : Int32) (h6 : Zh) (k33 : Int32 → Zh → Option (Zh)) (a34 : Nat) (x38 : Int32) (a39 : Nat) : Int32 → Option (Zh) :=
  fun (x41 : Int32) => zg (zin x38 (zL h6 a39)) (zlt (zsJ h6 a39 (zx x38) ((zJ h6 a39 (zx x38)) + ((zJ h6 a34 (zx x26)) * ((x41 : Int32).toInt64)))) (fun (h7 : Zh) => k33 (x32 + 1) h7))
def gX1_apply_L4 (a0 : Nat) (r1 : Option Nat) (x2 : Int32) (x3 : Int32) (r4 : Option Nat) (x26 : Int32) (x28 : Int32) (x29 : Int32) (x30 : Int32) (k31 : Zh → Option (Zh)) : (Int32 → Zh → Option (Zh)) → Int32 → Zh → Option (Zh) :=
  fun (k33 : Int32 → Zh → Option (Zh)) (x32 : Int32) (h6 : Zh) => (if (4 : Int32) ≤ x32 then k31 h6
  else Option.bind r4 (fun a34 => zg (zin x26 (zL h6 a34)) ((if ((lg_cmp (zJ h6 a34 (zx x26)) 0) : Int32) = 0 then k31 h6
  else zlt (x32 &&& 1) (fun x35 => zlt (x32 >>> ((1 : Int32) &&& 31)) (fun x36 => zlt (zR h6 a0 8) (fun r37 => zlt ((x30 ||| (x35 <<< (x2 &&& 31))) ||| (x36 <<< (x3 &&& 31))) (fun x38 => Option.bind r37 (fun a39 => zg (zin x38 (zL h6 a39)) (zg (zin x26 (zL h6 a34)) (Option.bind r1 (fun a40 => zjn (gX1_apply_J3 x26 x32 h6 k33 a34 x38 a39) (fun (k42 : Int32 → Option (Zh)) =>
  zdp h6 a40 (zbi (gX4_crossing h6 a40 x28 x29 x35 x36) (fun b => k42 b)) (zbi (gX4_crossing h6 a40 x28 x29 x35 x36) (fun b => k42 b)) (zbi (gX4_crossing h6 a40 x28 x29 x35 x36) (fun b => k42 b)))))))))))))))
def gX1_apply_L5 (a0 : Nat) (r1 : Option Nat) (x2 : Int32) (x3 : Int32) (r4 : Option Nat) (k25 : Zh → Option (Zh)) : (Int32 → Zh → Option (Zh)) → Int32 → Zh → Option (Zh) :=
  fun (k27 : Int32 → Zh → Option (Zh)) (x26 : Int32) (h4 : Zh) => (if (8 : Int32) ≤ x26 then k25 h4
  else zlt ((x26 >>> (x2 &&& 31)) &&& 1) (fun x28 => zlt ((x26 >>> (x3 &&& 31)) &&& 1) (fun x29 => zlt (x26 &&& ((((1 : Int32) <<< (x2 &&& 31)) ||| ((1 : Int32) <<< (x3 &&& 31))) ^^^ (-1))) (fun x30 => zjn (gX1_apply_J2 x26 k27) (fun (k31 : Zh → Option (Zh)) =>
  zlp (fun (_ : Int32) (_ : Zh) => (none : Option (Zh))) (gX1_apply_L4 a0 r1 x2 x3 r4 x26 x28 x29 x30 k31) zFU 0 h4)))))
def gX1_apply (h : Zh) (a0 : Nat) (r1 : Option Nat) (x2 : Int32) (x3 : Int32) (r4 : Option Nat) : Option (Zh) :=
  zlt (zR h a0 8) (fun r21 => zbV (gJ7_fill_d0a16 h r21 0) (fun h1 => zjn (gX1_apply_J1 a0 r4) (fun (k25 : Zh → Option (Zh)) =>
  zlp (fun (_ : Int32) (_ : Zh) => (none : Option (Zh))) (gX1_apply_L5 a0 r1 x2 x3 r4 k25) zFU 0 h1)))
set_option maxRecDepth 20000 in
theorem cX1_apply_ok (l : Launch) (h : Zh) (a0 : Nat) (r1 : Option Nat) (x2 : Int32) (x3 : Int32) (r4 : Option Nat) : Zc l yX1_apply mX1_apply 0 h [(.ref a0, 1), (va_rf r1, 4), (.int x2, 0), (.int x3, 0), (va_rf r4, 21)] ((gX1_apply h a0 r1 x2 x3 r4).map zoV) := by
  refine zc_of2 (ls := [some (.ref a0, 1), some (va_rf r1, 4), some (.int x2, 0), some (.int x3, 0), some (va_rf r4, 21), none, none, none, none, none, none, none]) (j := 7) (by decide +kernel) rfl rfl (zEn_ca (zEn_cr (zEn_ci (zEn_ci (zEn_cr rfl))))) (Nat.le_of_ble_eq_true rfl) rfl ?_
  unfold gX1_apply
  refine zr_aload_n (r := (some a0)) (eX1_apply 0 rfl) rfl rfl ?_
  refine zr_getR2 zf_RX1_37 (τ2 := 21) rfl (eX1_apply 1 rfl) ?_
  refine v_letr (fun r21 => ?_)
  refine zr_lconst (eX1_apply 2 rfl) zk_lconst_0 ?_
  refine zr_invS_V (as := [(va_rf r21, 21), (.long 0, 0)]) (cJ7_fill_d0a16_ok l h r21 0) rfl zcd_J7_fill_d0a16 ⟨zw_726, zw_391, zw_65⟩ ⟨Nat.le_of_ble_eq_true rfl, Nat.le_of_ble_eq_true rfl⟩ rfl (Nat.le_of_ble_eq_true rfl) (eX1_apply 3 rfl) (fun h1 => ?_)
  refine zr_iconst (eX1_apply 4 rfl) zk_iconst_0 ?_
  refine zr_istore (ls2 := [some (.ref a0, 1), some (va_rf r1, 4), some (.int x2, 0), some (.int x3, 0), some (va_rf r4, 21), some (.int 0, 0), none, none, none, none, none, none]) (eX1_apply 5 rfl) (Nat.le_of_ble_eq_true rfl) (by simp only [zst1, zst2, zcl_rf]) ?_
  refine v_jn (fun (k25 : Zh → Option (Zh)) => ∀ (h2 : Zh), V l mX1_apply (zN h) (zS h) 0 zoV 130 [some (.ref a0, 1), none, none, none, some (va_rf r4, 21), none, none, none, none, none, none, none] [] h2 (k25 h2)) ?_ ?_
  · intro h2
    unfold gX1_apply_J1
    refine zr_aload_n (r := (some a0)) (eX1_apply 82 rfl) rfl rfl ?_
    refine zr_getR2 zf_RX1_37 (τ2 := 21) rfl (eX1_apply 83 rfl) ?_
    refine v_letr (fun r22 => ?_)
    refine zr_iconst (eX1_apply 84 rfl) zk_iconst_0 ?_
    refine zr_aload (r := r4) (eX1_apply 85 rfl) rfl ?_
    refine zr_iconst (eX1_apply 86 rfl) zk_iconst_0 ?_
    refine zr_bipush (eX1_apply 87 rfl) zk_bipush_8 ?_
    refine v_nn (fun a23 ea23 => ?_)
    subst ea23
    refine v_nn (fun a24 ea24 => ?_)
    subst ea24
    refine zr_copyJ (e' := 0) (f := 0) zac_RX1_107 ⟨Nat.le_of_ble_eq_true rfl, zRnat rfl⟩ (Nat.le_of_ble_eq_true rfl) (eX1_apply 88 rfl) ?_
    refine v_leth (fun h3 => ?_)
    exact zr_vret rfl rfl (eX1_apply 89 rfl)
  intro k25 hk25
  refine v_drop [true, true, true, true, true, true, false, false, false, false, false, false] rfl ?_
  refine zlp_ind (fun (k27 : Int32 → Zh → Option (Zh)) => ∀ (x26 : Int32) (h4 : Zh), V l mX1_apply (zN h) (zS h) 0 zoV 11 [some (.ref a0, 1), some (va_rf r1, 4), some (.int x2, 0), some (.int x3, 0), some (va_rf r4, 21), some (.int x26, 0), none, none, none, none, none, none] [] h4 (k27 x26 h4)) ?_ ?_ 0 h1
  · exact fun _ _ => v_none
  intro k27 hk27 x26 h4
  unfold gX1_apply_L5
  refine zr_iload (eX1_apply 6 rfl) rfl ?_
  refine zr_bipush (eX1_apply 7 rfl) zk_bipush_8 ?_
  refine zr_icmp_ge (eX1_apply 8 rfl) (t := 130) (by decide) ?_ ?_
  · exact v_drop [true, false, false, false, true, false, false, false, false, false, false, false] rfl (hk25 h4)
  · refine zr_iload (eX1_apply 9 rfl) rfl ?_
    refine zr_iload_n (eX1_apply 10 rfl) rfl rfl ?_
    refine zr_ishr (eX1_apply 11 rfl) ?_
    refine zr_iconst (eX1_apply 12 rfl) zk_iconst_1 ?_
    refine zr_iand (eX1_apply 13 rfl) ?_
    refine v_leti (fun x28 => ?_)
    refine zr_istore (ls2 := [some (.ref a0, 1), some (va_rf r1, 4), some (.int x2, 0), some (.int x3, 0), some (va_rf r4, 21), some (.int x26, 0), some (.int x28, 0), none, none, none, none, none]) (eX1_apply 14 rfl) (Nat.le_of_ble_eq_true rfl) rfl ?_
    refine zr_iload (eX1_apply 15 rfl) rfl ?_
    refine zr_iload_n (eX1_apply 16 rfl) rfl rfl ?_
    refine zr_ishr (eX1_apply 17 rfl) ?_
    refine zr_iconst (eX1_apply 18 rfl) zk_iconst_1 ?_
    refine zr_iand (eX1_apply 19 rfl) ?_
    refine v_leti (fun x29 => ?_)
    refine zr_istore (ls2 := [some (.ref a0, 1), some (va_rf r1, 4), some (.int x2, 0), some (.int x3, 0), some (va_rf r4, 21), some (.int x26, 0), some (.int x28, 0), some (.int x29, 0), none, none, none, none]) (eX1_apply 20 rfl) (Nat.le_of_ble_eq_true rfl) rfl ?_
    refine zr_iload (eX1_apply 21 rfl) rfl ?_
    refine zr_iconst (eX1_apply 22 rfl) zk_iconst_1 ?_
    refine zr_iload_n (eX1_apply 23 rfl) rfl rfl ?_
    refine zr_ishl (eX1_apply 24 rfl) ?_
    refine zr_iconst (eX1_apply 25 rfl) zk_iconst_1 ?_
    refine zr_iload_n (eX1_apply 26 rfl) rfl rfl ?_
    refine zr_ishl (eX1_apply 27 rfl) ?_
    refine zr_ior (eX1_apply 28 rfl) ?_
    refine zr_iconst (eX1_apply 29 rfl) zk_iconst_m1 ?_
    refine zr_ixor (eX1_apply 30 rfl) ?_
    refine zr_iand (eX1_apply 31 rfl) ?_
    refine v_leti (fun x30 => ?_)
    refine zr_istore (ls2 := [some (.ref a0, 1), some (va_rf r1, 4), some (.int x2, 0), some (.int x3, 0), some (va_rf r4, 21), some (.int x26, 0), some (.int x28, 0), some (.int x29, 0), some (.int x30, 0), none, none, none]) (eX1_apply 32 rfl) (Nat.le_of_ble_eq_true rfl) rfl ?_
    refine zr_iconst (eX1_apply 33 rfl) zk_iconst_0 ?_
    refine zr_istore (ls2 := [some (.ref a0, 1), some (va_rf r1, 4), some (.int x2, 0), some (.int x3, 0), some (va_rf r4, 21), some (.int x26, 0), some (.int x28, 0), some (.int x29, 0), some (.int x30, 0), some (.int 0, 0), none, none]) (eX1_apply 34 rfl) (Nat.le_of_ble_eq_true rfl) rfl ?_
    refine v_jn (fun (k31 : Zh → Option (Zh)) => ∀ (h5 : Zh), V l mX1_apply (zN h) (zS h) 0 zoV 124 [some (.ref a0, 1), some (va_rf r1, 4), some (.int x2, 0), some (.int x3, 0), some (va_rf r4, 21), some (.int x26, 0), none, none, none, none, none, none] [] h5 (k31 h5)) ?_ ?_
    · intro h5
      unfold gX1_apply_J2
      refine zr_iinc (ls2 := [some (.ref a0, 1), some (va_rf r1, 4), some (.int x2, 0), some (.int x3, 0), some (va_rf r4, 21), some (.int (x26 + 1), 0), none, none, none, none, none, none]) (eX1_apply 80 rfl) rfl (Nat.le_of_ble_eq_true rfl) zk_iconst_1 (by simp only [zst1, zst2, zcl_rf]) ?_
      refine zr_goto (eX1_apply 81 rfl) (t := 11) (by decide) ?_
      exact v_drop [true, true, true, true, true, true, false, false, false, false, false, false] rfl (hk27 (x26 + 1) h5)
    intro k31 hk31
    refine v_drop [true, true, true, true, true, true, true, true, true, true, false, false] rfl ?_
    refine zlp_ind (fun (k33 : Int32 → Zh → Option (Zh)) => ∀ (x32 : Int32) (h6 : Zh), V l mX1_apply (zN h) (zS h) 0 zoV 51 [some (.ref a0, 1), some (va_rf r1, 4), some (.int x2, 0), some (.int x3, 0), some (va_rf r4, 21), some (.int x26, 0), some (.int x28, 0), some (.int x29, 0), some (.int x30, 0), some (.int x32, 0), none, none] [] h6 (k33 x32 h6)) ?_ ?_ 0 h4
    · exact fun _ _ => v_none
    intro k33 hk33 x32 h6
    unfold gX1_apply_L4
    refine zr_iload (eX1_apply 35 rfl) rfl ?_
    refine zr_iconst (eX1_apply 36 rfl) zk_iconst_4 ?_
    refine zr_icmp_ge (eX1_apply 37 rfl) (t := 124) (by decide) ?_ ?_
    · exact v_drop [true, true, true, true, true, true, false, false, false, false, false, false] rfl (hk31 h6)
    · refine zr_aload (r := r4) (eX1_apply 38 rfl) rfl ?_
      refine zr_iload (eX1_apply 39 rfl) rfl ?_
      refine v_nn (fun a34 ea34 => ?_)
      subst ea34
      refine zr_lald (eX1_apply 40 rfl) ?_
      refine zr_lconst (eX1_apply 41 rfl) zk_lconst_0 ?_
      refine zr_lcmp (eX1_apply 42 rfl) ?_
      refine zr_if_eq (eX1_apply 43 rfl) (t := 124) (by decide) ?_ ?_
      · exact v_drop [true, true, true, true, true, true, false, false, false, false, false, false] rfl (hk31 h6)
      · refine zr_iload (eX1_apply 44 rfl) rfl ?_
        refine zr_iconst (eX1_apply 45 rfl) zk_iconst_1 ?_
        refine zr_iand (eX1_apply 46 rfl) ?_
        refine v_leti (fun x35 => ?_)
        refine zr_istore (ls2 := [some (.ref a0, 1), some (va_rf r1, 4), some (.int x2, 0), some (.int x3, 0), some (.ref a34, 21), some (.int x26, 0), some (.int x28, 0), some (.int x29, 0), some (.int x30, 0), some (.int x32, 0), some (.int x35, 0), none]) (eX1_apply 47 rfl) (Nat.le_of_ble_eq_true rfl) rfl ?_
        refine zr_iload (eX1_apply 48 rfl) rfl ?_
        refine zr_iconst (eX1_apply 49 rfl) zk_iconst_1 ?_
        refine zr_ishr (eX1_apply 50 rfl) ?_
        refine v_leti (fun x36 => ?_)
        refine zr_istore (ls2 := [some (.ref a0, 1), some (va_rf r1, 4), some (.int x2, 0), some (.int x3, 0), some (.ref a34, 21), some (.int x26, 0), some (.int x28, 0), some (.int x29, 0), some (.int x30, 0), some (.int x32, 0), some (.int x35, 0), some (.int x36, 0)]) (eX1_apply 51 rfl) (Nat.le_of_ble_eq_true rfl) rfl ?_
        refine zr_aload_n (r := (some a0)) (eX1_apply 52 rfl) rfl rfl ?_
        refine zr_getR2 zf_RX1_37 (τ2 := 21) rfl (eX1_apply 53 rfl) ?_
        refine v_letr (fun r37 => ?_)
        refine zr_iload (eX1_apply 54 rfl) rfl ?_
        refine zr_iload (eX1_apply 55 rfl) rfl ?_
        refine zr_iload_n (eX1_apply 56 rfl) rfl rfl ?_
        refine zr_ishl (eX1_apply 57 rfl) ?_
        refine zr_ior (eX1_apply 58 rfl) ?_
        refine zr_iload (eX1_apply 59 rfl) rfl ?_
        refine zr_iload_n (eX1_apply 60 rfl) rfl rfl ?_
        refine zr_ishl (eX1_apply 61 rfl) ?_
        refine zr_ior (eX1_apply 62 rfl) ?_
        refine v_leti (fun x38 => ?_)
        refine v_nn (fun a39 ea39 => ?_)
        subst ea39
        refine zr_dup2 (eX1_apply 63 rfl) rfl rfl ?_
        refine zr_lald (eX1_apply 64 rfl) ?_
        refine zr_aload (r := (some a34)) (eX1_apply 65 rfl) rfl ?_
        refine zr_iload (eX1_apply 66 rfl) rfl ?_
        refine zr_lald (eX1_apply 67 rfl) ?_
        refine zr_aload_n (r := r1) (eX1_apply 68 rfl) rfl rfl ?_
        refine zr_iload (eX1_apply 69 rfl) rfl ?_
        refine zr_iload (eX1_apply 70 rfl) rfl ?_
        refine zr_iload (eX1_apply 71 rfl) rfl ?_
        refine zr_iload (eX1_apply 72 rfl) rfl ?_
        refine v_nn (fun a40 ea40 => ?_)
        subst ea40
        refine v_jn (fun (k42 : Int32 → Option (Zh)) => ∀ (x41 : Int32), V l mX1_apply (zN h) (zS h) 0 zoV 114 [some (.ref a0, 1), some (.ref a40, 4), some (.int x2, 0), some (.int x3, 0), some (.ref a34, 21), some (.int x26, 0), some (.int x28, 0), some (.int x29, 0), some (.int x30, 0), some (.int x32, 0), some (.int x35, 0), some (.int x36, 0)] [(.int x41, 0), (.long (zJ h6 a34 (zx x26)), 0), (.long (zJ h6 a39 (zx x38)), 0), (.int x38, 0), (.ref a39, 21)] h6 (k42 x41)) ?_ ?_
        · intro x41
          unfold gX1_apply_J3
          refine zr_i2l (eX1_apply 74 rfl) ?_
          refine zr_lmul (eX1_apply 75 rfl) ?_
          refine zr_ladd (eX1_apply 76 rfl) ?_
          refine zr_last (eX1_apply 77 rfl) ?_
          refine v_leth (fun h7 => ?_)
          refine zr_iinc (ls2 := [some (.ref a0, 1), some (.ref a40, 4), some (.int x2, 0), some (.int x3, 0), some (.ref a34, 21), some (.int x26, 0), some (.int x28, 0), some (.int x29, 0), some (.int x30, 0), some (.int (x32 + 1), 0), some (.int x35, 0), some (.int x36, 0)]) (eX1_apply 78 rfl) rfl (Nat.le_of_ble_eq_true rfl) zk_iconst_1 rfl ?_
          refine zr_goto (eX1_apply 79 rfl) (t := 51) (by decide) ?_
          exact v_drop [true, true, true, true, true, true, true, true, true, true, false, false] rfl (hk33 (x32 + 1) h7)
        intro k42 hk42
        refine zr_dsp (fun qk => ?_) (fun qk => ?_) (fun qk => ?_)
        · exact zr_invU_i (x := yX4_crossing) (owner := RX4) (n := 4) (as := [(.int x28, 0), (.int x29, 0), (.int x35, 0), (.int x36, 0)]) qk (cX4_crossing_ok l h6 a40 x28 x29 x35 x36) rfl rfl (by decide) zw_632 ⟨by decide, by decide, by decide +kernel⟩ ⟨zw_626, zw_629, zw_627, zw_628, zw_627, zw_68⟩ zw_632 ⟨Nat.le_of_ble_eq_true rfl, Nat.le_of_ble_eq_true rfl⟩ rfl (Nat.le_of_ble_eq_true rfl) (eX1_apply 73 rfl) (fun b => hk42 b)
        · exact zr_invU_i (x := yX4_crossing) (owner := RX4) (n := 4) (as := [(.int x28, 0), (.int x29, 0), (.int x35, 0), (.int x36, 0)]) qk (cX4_crossing_ok l h6 a40 x28 x29 x35 x36) rfl rfl (by decide) zw_632 ⟨by decide, by decide, by decide +kernel⟩ ⟨zw_626, zw_629, zw_627, zw_631, zw_627, zw_68⟩ zw_632 ⟨Nat.le_of_ble_eq_true rfl, Nat.le_of_ble_eq_true rfl⟩ rfl (Nat.le_of_ble_eq_true rfl) (eX1_apply 73 rfl) (fun b => hk42 b)
        · exact zr_invU_i (x := yX4_crossing) (owner := RX4) (n := 4) (as := [(.int x28, 0), (.int x29, 0), (.int x35, 0), (.int x36, 0)]) qk (cX4_crossing_ok l h6 a40 x28 x29 x35 x36) rfl rfl (by decide) zw_632 ⟨by decide, by decide, by decide +kernel⟩ ⟨zw_626, zw_629, zw_627, zw_630, zw_627, zw_68⟩ zw_632 ⟨Nat.le_of_ble_eq_true rfl, Nat.le_of_ble_eq_true rfl⟩ rfl (Nat.le_of_ble_eq_true rfl) (eX1_apply 73 rfl) (fun b => hk42 b)
def gX1_countExchange_J1 (x22 : Int32) (k23 : Int32 → Int32 → Zh → Option (Int32 × Zh)) (h11 : Zh) : Int32 → Option (Int32 × Zh) :=
  fun (x36 : Int32) => k23 x36 (x22 + 1) h11
def gX1_countExchange_J2 (x39 : Int32) (k40 : Int32 → Int32 → Option (Int32 × Zh)) : Int32 → Option (Int32 × Zh) :=
  fun (x45 : Int32) => k40 x45 (x39 + 1)
def gX1_countExchange_L3 (a0 : Nat) (h11 : Zh) (k37 : Int32 → Option (Int32 × Zh)) : (Int32 → Int32 → Option (Int32 × Zh)) → Int32 → Int32 → Option (Int32 × Zh) :=
  fun (k40 : Int32 → Int32 → Option (Int32 × Zh)) (x38 : Int32) (x39 : Int32) => (if (8 : Int32) ≤ x39 then k37 x38
  else zlt (zR h11 a0 6) (fun r41 => Option.bind r41 (fun a42 => zg (zin x39 (zL h11 a42)) (zlt (zR h11 a0 7) (fun r43 => Option.bind r43 (fun a44 => zg (zin x39 (zL h11 a44)) (zjn (gX1_countExchange_J2 x39 k40) (fun (k46 : Int32 → Option (Int32 × Zh)) =>
  (if ((lg_cmp (zJ h11 a42 (zx x39)) (zJ h11 a44 (zx x39))) : Int32) = 0 then k46 x38
  else k46 (x38 + 1))))))))))
def gX1_countExchange_L4 (a0 : Nat) (r1 : Option Nat) (r2 : Option Nat) (r3 : Option Nat) : (Int32 → Int32 → Zh → Option (Int32 × Zh)) → Int32 → Int32 → Zh → Option (Int32 × Zh) :=
  fun (k23 : Int32 → Int32 → Zh → Option (Int32 × Zh)) (x21 : Int32) (x22 : Int32) (h1 : Zh) => (if (8 : Int32) ≤ x22 then (some (x21, h1))
  else zlt (zR h1 a0 6) (fun r24 => zbV (gJ7_fill_d0a16 h1 r24 0) (fun h2 => zlt (zR h2 a0 6) (fun r25 => Option.bind r25 (fun a26 => zg (zin x22 (zL h2 a26)) (zlt (zsJ h2 a26 (zx x22) 1) (fun (h3 : Zh) => zlt (zR h3 a0 6) (fun r27 => zbV (gX1_apply h3 a0 r1 0 1 r27) (fun h4 => zlt (zR h4 a0 6) (fun r28 => zbV (gX1_apply h4 a0 r2 0 2 r28) (fun h5 => zlt (zR h5 a0 6) (fun r29 => zbV (gX1_apply h5 a0 r3 1 2 r29) (fun h6 => zlt (zR h6 a0 7) (fun r30 => zbV (gJ7_fill_d0a16 h6 r30 0) (fun h7 => zlt (zR h7 a0 7) (fun r31 => Option.bind r31 (fun a32 => zg (zin x22 (zL h7 a32)) (zlt (zsJ h7 a32 (zx x22) 1) (fun (h8 : Zh) => zlt (zR h8 a0 7) (fun r33 => zbV (gX1_apply h8 a0 r3 1 2 r33) (fun h9 => zlt (zR h9 a0 7) (fun r34 => zbV (gX1_apply h9 a0 r2 0 2 r34) (fun h10 => zlt (zR h10 a0 7) (fun r35 => zbV (gX1_apply h10 a0 r1 0 1 r35) (fun h11 => zjn (gX1_countExchange_J1 x22 k23 h11) (fun (k37 : Int32 → Option (Int32 × Zh)) =>
  zlp (fun (_ : Int32) (_ : Int32) => (none : Option (Int32 × Zh))) (gX1_countExchange_L3 a0 h11 k37) zFU x21 0))))))))))))))))))))))))))
def gX1_countExchange (h : Zh) (a0 : Nat) (r1 : Option Nat) (r2 : Option Nat) (r3 : Option Nat) : Option (Int32 × Zh) :=
  zlp (fun (_ : Int32) (_ : Int32) (_ : Zh) => (none : Option (Int32 × Zh))) (gX1_countExchange_L4 a0 r1 r2 r3) zFU 0 0 h
set_option maxRecDepth 20000 in
theorem cX1_countExchange_ok (l : Launch) (h : Zh) (a0 : Nat) (r1 : Option Nat) (r2 : Option Nat) (r3 : Option Nat) : Zc l yX1_countExchange mX1_countExchange 0 h [(.ref a0, 1), (va_rf r1, 4), (va_rf r2, 4), (va_rf r3, 4)] ((gX1_countExchange h a0 r1 r2 r3).map zoI) := by
  refine zc_of2 (ls := [some (.ref a0, 1), some (va_rf r1, 4), some (va_rf r2, 4), some (va_rf r3, 4), none, none, none]) (j := 3) (by decide +kernel) rfl rfl (zEn_ca (zEn_cr (zEn_cr (zEn_cr rfl)))) (Nat.le_of_ble_eq_true rfl) rfl ?_
  unfold gX1_countExchange
  refine zr_iconst (eX1_countExchange 0 rfl) zk_iconst_0 ?_
  refine zr_istore (ls2 := [some (.ref a0, 1), some (va_rf r1, 4), some (va_rf r2, 4), some (va_rf r3, 4), some (.int 0, 0), none, none]) (eX1_countExchange 1 rfl) (Nat.le_of_ble_eq_true rfl) (by simp only [zst1, zst2, zcl_rf]) ?_
  refine zr_iconst (eX1_countExchange 2 rfl) zk_iconst_0 ?_
  refine zr_istore (ls2 := [some (.ref a0, 1), some (va_rf r1, 4), some (va_rf r2, 4), some (va_rf r3, 4), some (.int 0, 0), some (.int 0, 0), none]) (eX1_countExchange 3 rfl) (Nat.le_of_ble_eq_true rfl) rfl ?_
  refine v_drop [true, true, true, true, true, true, false] rfl ?_
  refine zlp_ind (fun (k23 : Int32 → Int32 → Zh → Option (Int32 × Zh)) => ∀ (x21 : Int32) (x22 : Int32) (h1 : Zh), V l mX1_countExchange (zN h) (zS h) 0 zoI 6 [some (.ref a0, 1), some (va_rf r1, 4), some (va_rf r2, 4), some (va_rf r3, 4), some (.int x21, 0), some (.int x22, 0), none] [] h1 (k23 x21 x22 h1)) ?_ ?_ 0 0 h
  · exact fun _ _ _ => v_none
  intro k23 hk23 x21 x22 h1
  unfold gX1_countExchange_L4
  refine zr_iload (eX1_countExchange 4 rfl) rfl ?_
  refine zr_bipush (eX1_countExchange 5 rfl) zk_bipush_8 ?_
  refine zr_icmp_ge (eX1_countExchange 6 rfl) (t := 154) (by decide) ?_ ?_
  · refine zr_iload (eX1_countExchange 87 rfl) rfl ?_
    exact zr_iret rfl rfl (eX1_countExchange 88 rfl)
  · refine zr_aload_n (r := (some a0)) (eX1_countExchange 7 rfl) rfl rfl ?_
    refine zr_getR2 zf_RX1_31 (τ2 := 21) rfl (eX1_countExchange 8 rfl) ?_
    refine v_letr (fun r24 => ?_)
    refine zr_lconst (eX1_countExchange 9 rfl) zk_lconst_0 ?_
    refine zr_invS_V (as := [(va_rf r24, 21), (.long 0, 0)]) (cJ7_fill_d0a16_ok l h1 r24 0) rfl zcd_J7_fill_d0a16 ⟨zw_726, zw_391, zw_65⟩ ⟨Nat.le_of_ble_eq_true rfl, Nat.le_of_ble_eq_true rfl⟩ rfl (Nat.le_of_ble_eq_true rfl) (eX1_countExchange 10 rfl) (fun h2 => ?_)
    refine zr_aload_n (r := (some a0)) (eX1_countExchange 11 rfl) rfl rfl ?_
    refine zr_getR2 zf_RX1_31 (τ2 := 21) rfl (eX1_countExchange 12 rfl) ?_
    refine v_letr (fun r25 => ?_)
    refine zr_iload (eX1_countExchange 13 rfl) rfl ?_
    refine zr_lconst (eX1_countExchange 14 rfl) zk_lconst_1 ?_
    refine v_nn (fun a26 ea26 => ?_)
    subst ea26
    refine zr_last (eX1_countExchange 15 rfl) ?_
    refine v_leth (fun h3 => ?_)
    refine zr_aload_n (r := (some a0)) (eX1_countExchange 16 rfl) rfl rfl ?_
    refine zr_aload_n (r := r1) (eX1_countExchange 17 rfl) rfl rfl ?_
    refine zr_iconst (eX1_countExchange 18 rfl) zk_iconst_0 ?_
    refine zr_iconst (eX1_countExchange 19 rfl) zk_iconst_1 ?_
    refine zr_aload_n (r := (some a0)) (eX1_countExchange 20 rfl) rfl rfl ?_
    refine zr_getR2 zf_RX1_31 (τ2 := 21) rfl (eX1_countExchange 21 rfl) ?_
    refine v_letr (fun r27 => ?_)
    refine zr_invV_V (as := [(va_rf r1, 4), (.int 0, 0), (.int 1, 0), (va_rf r27, 21)]) (cX1_apply_ok l h3 a0 r1 0 1 r27) rfl rfl ⟨by decide, by decide, by decide⟩ zcd_X1_apply rfl ⟨zw_739, zw_740, zw_741, zw_71⟩ ⟨Nat.le_of_ble_eq_true rfl, Nat.le_of_ble_eq_true rfl⟩ rfl (Nat.le_of_ble_eq_true rfl) (eX1_countExchange 22 rfl) (fun h4 => ?_)
    refine zr_aload_n (r := (some a0)) (eX1_countExchange 23 rfl) rfl rfl ?_
    refine zr_aload_n (r := r2) (eX1_countExchange 24 rfl) rfl rfl ?_
    refine zr_iconst (eX1_countExchange 25 rfl) zk_iconst_0 ?_
    refine zr_iconst (eX1_countExchange 26 rfl) zk_iconst_2 ?_
    refine zr_aload_n (r := (some a0)) (eX1_countExchange 27 rfl) rfl rfl ?_
    refine zr_getR2 zf_RX1_31 (τ2 := 21) rfl (eX1_countExchange 28 rfl) ?_
    refine v_letr (fun r28 => ?_)
    refine zr_invV_V (as := [(va_rf r2, 4), (.int 0, 0), (.int 2, 0), (va_rf r28, 21)]) (cX1_apply_ok l h4 a0 r2 0 2 r28) rfl rfl ⟨by decide, by decide, by decide⟩ zcd_X1_apply rfl ⟨zw_739, zw_740, zw_741, zw_71⟩ ⟨Nat.le_of_ble_eq_true rfl, Nat.le_of_ble_eq_true rfl⟩ rfl (Nat.le_of_ble_eq_true rfl) (eX1_countExchange 29 rfl) (fun h5 => ?_)
    refine zr_aload_n (r := (some a0)) (eX1_countExchange 30 rfl) rfl rfl ?_
    refine zr_aload_n (r := r3) (eX1_countExchange 31 rfl) rfl rfl ?_
    refine zr_iconst (eX1_countExchange 32 rfl) zk_iconst_1 ?_
    refine zr_iconst (eX1_countExchange 33 rfl) zk_iconst_2 ?_
    refine zr_aload_n (r := (some a0)) (eX1_countExchange 34 rfl) rfl rfl ?_
    refine zr_getR2 zf_RX1_31 (τ2 := 21) rfl (eX1_countExchange 35 rfl) ?_
    refine v_letr (fun r29 => ?_)
    refine zr_invV_V (as := [(va_rf r3, 4), (.int 1, 0), (.int 2, 0), (va_rf r29, 21)]) (cX1_apply_ok l h5 a0 r3 1 2 r29) rfl rfl ⟨by decide, by decide, by decide⟩ zcd_X1_apply rfl ⟨zw_739, zw_740, zw_741, zw_71⟩ ⟨Nat.le_of_ble_eq_true rfl, Nat.le_of_ble_eq_true rfl⟩ rfl (Nat.le_of_ble_eq_true rfl) (eX1_countExchange 36 rfl) (fun h6 => ?_)
    refine zr_aload_n (r := (some a0)) (eX1_countExchange 37 rfl) rfl rfl ?_
    refine zr_getR2 zf_RX1_34 (τ2 := 21) rfl (eX1_countExchange 38 rfl) ?_
    refine v_letr (fun r30 => ?_)
    refine zr_lconst (eX1_countExchange 39 rfl) zk_lconst_0 ?_
    refine zr_invS_V (as := [(va_rf r30, 21), (.long 0, 0)]) (cJ7_fill_d0a16_ok l h6 r30 0) rfl zcd_J7_fill_d0a16 ⟨zw_726, zw_391, zw_65⟩ ⟨Nat.le_of_ble_eq_true rfl, Nat.le_of_ble_eq_true rfl⟩ rfl (Nat.le_of_ble_eq_true rfl) (eX1_countExchange 40 rfl) (fun h7 => ?_)
    refine zr_aload_n (r := (some a0)) (eX1_countExchange 41 rfl) rfl rfl ?_
    refine zr_getR2 zf_RX1_34 (τ2 := 21) rfl (eX1_countExchange 42 rfl) ?_
    refine v_letr (fun r31 => ?_)
    refine zr_iload (eX1_countExchange 43 rfl) rfl ?_
    refine zr_lconst (eX1_countExchange 44 rfl) zk_lconst_1 ?_
    refine v_nn (fun a32 ea32 => ?_)
    subst ea32
    refine zr_last (eX1_countExchange 45 rfl) ?_
    refine v_leth (fun h8 => ?_)
    refine zr_aload_n (r := (some a0)) (eX1_countExchange 46 rfl) rfl rfl ?_
    refine zr_aload_n (r := r3) (eX1_countExchange 47 rfl) rfl rfl ?_
    refine zr_iconst (eX1_countExchange 48 rfl) zk_iconst_1 ?_
    refine zr_iconst (eX1_countExchange 49 rfl) zk_iconst_2 ?_
    refine zr_aload_n (r := (some a0)) (eX1_countExchange 50 rfl) rfl rfl ?_
    refine zr_getR2 zf_RX1_34 (τ2 := 21) rfl (eX1_countExchange 51 rfl) ?_
    refine v_letr (fun r33 => ?_)
    refine zr_invV_V (as := [(va_rf r3, 4), (.int 1, 0), (.int 2, 0), (va_rf r33, 21)]) (cX1_apply_ok l h8 a0 r3 1 2 r33) rfl rfl ⟨by decide, by decide, by decide⟩ zcd_X1_apply rfl ⟨zw_739, zw_740, zw_741, zw_71⟩ ⟨Nat.le_of_ble_eq_true rfl, Nat.le_of_ble_eq_true rfl⟩ rfl (Nat.le_of_ble_eq_true rfl) (eX1_countExchange 52 rfl) (fun h9 => ?_)
    refine zr_aload_n (r := (some a0)) (eX1_countExchange 53 rfl) rfl rfl ?_
    refine zr_aload_n (r := r2) (eX1_countExchange 54 rfl) rfl rfl ?_
    refine zr_iconst (eX1_countExchange 55 rfl) zk_iconst_0 ?_
    refine zr_iconst (eX1_countExchange 56 rfl) zk_iconst_2 ?_
    refine zr_aload_n (r := (some a0)) (eX1_countExchange 57 rfl) rfl rfl ?_
    refine zr_getR2 zf_RX1_34 (τ2 := 21) rfl (eX1_countExchange 58 rfl) ?_
    refine v_letr (fun r34 => ?_)
    refine zr_invV_V (as := [(va_rf r2, 4), (.int 0, 0), (.int 2, 0), (va_rf r34, 21)]) (cX1_apply_ok l h9 a0 r2 0 2 r34) rfl rfl ⟨by decide, by decide, by decide⟩ zcd_X1_apply rfl ⟨zw_739, zw_740, zw_741, zw_71⟩ ⟨Nat.le_of_ble_eq_true rfl, Nat.le_of_ble_eq_true rfl⟩ rfl (Nat.le_of_ble_eq_true rfl) (eX1_countExchange 59 rfl) (fun h10 => ?_)
    refine zr_aload_n (r := (some a0)) (eX1_countExchange 60 rfl) rfl rfl ?_
    refine zr_aload_n (r := r1) (eX1_countExchange 61 rfl) rfl rfl ?_
    refine zr_iconst (eX1_countExchange 62 rfl) zk_iconst_0 ?_
    refine zr_iconst (eX1_countExchange 63 rfl) zk_iconst_1 ?_
    refine zr_aload_n (r := (some a0)) (eX1_countExchange 64 rfl) rfl rfl ?_
    refine zr_getR2 zf_RX1_34 (τ2 := 21) rfl (eX1_countExchange 65 rfl) ?_
    refine v_letr (fun r35 => ?_)
    refine zr_invV_V (as := [(va_rf r1, 4), (.int 0, 0), (.int 1, 0), (va_rf r35, 21)]) (cX1_apply_ok l h10 a0 r1 0 1 r35) rfl rfl ⟨by decide, by decide, by decide⟩ zcd_X1_apply rfl ⟨zw_739, zw_740, zw_741, zw_71⟩ ⟨Nat.le_of_ble_eq_true rfl, Nat.le_of_ble_eq_true rfl⟩ rfl (Nat.le_of_ble_eq_true rfl) (eX1_countExchange 66 rfl) (fun h11 => ?_)
    refine zr_iconst (eX1_countExchange 67 rfl) zk_iconst_0 ?_
    refine zr_istore (ls2 := [some (.ref a0, 1), some (va_rf r1, 4), some (va_rf r2, 4), some (va_rf r3, 4), some (.int x21, 0), some (.int x22, 0), some (.int 0, 0)]) (eX1_countExchange 68 rfl) (Nat.le_of_ble_eq_true rfl) rfl ?_
    refine v_jn (fun (k37 : Int32 → Option (Int32 × Zh)) => ∀ (x36 : Int32), V l mX1_countExchange (zN h) (zS h) 0 zoI 148 [some (.ref a0, 1), some (va_rf r1, 4), some (va_rf r2, 4), some (va_rf r3, 4), some (.int x36, 0), some (.int x22, 0), none] [] h11 (k37 x36)) ?_ ?_
    · intro x36
      unfold gX1_countExchange_J1
      refine zr_iinc (ls2 := [some (.ref a0, 1), some (va_rf r1, 4), some (va_rf r2, 4), some (va_rf r3, 4), some (.int x36, 0), some (.int (x22 + 1), 0), none]) (eX1_countExchange 85 rfl) rfl (Nat.le_of_ble_eq_true rfl) zk_iconst_1 rfl ?_
      refine zr_goto (eX1_countExchange 86 rfl) (t := 6) (by decide) ?_
      exact v_drop [true, true, true, true, true, true, false] rfl (hk23 x36 (x22 + 1) h11)
    intro k37 hk37
    refine v_drop [true, true, true, true, true, true, true] rfl ?_
    refine zlp_ind (fun (k40 : Int32 → Int32 → Option (Int32 × Zh)) => ∀ (x38 : Int32) (x39 : Int32), V l mX1_countExchange (zN h) (zS h) 0 zoI 114 [some (.ref a0, 1), some (va_rf r1, 4), some (va_rf r2, 4), some (va_rf r3, 4), some (.int x38, 0), some (.int x22, 0), some (.int x39, 0)] [] h11 (k40 x38 x39)) ?_ ?_ x21 0
    · exact fun _ _ => v_none
    intro k40 hk40 x38 x39
    unfold gX1_countExchange_L3
    refine zr_iload (eX1_countExchange 69 rfl) rfl ?_
    refine zr_bipush (eX1_countExchange 70 rfl) zk_bipush_8 ?_
    refine zr_icmp_ge (eX1_countExchange 71 rfl) (t := 148) (by decide) ?_ ?_
    · exact v_drop [true, true, true, true, true, true, false] rfl (hk37 x38)
    · refine zr_aload_n (r := (some a0)) (eX1_countExchange 72 rfl) rfl rfl ?_
      refine zr_getR2 zf_RX1_31 (τ2 := 21) rfl (eX1_countExchange 73 rfl) ?_
      refine v_letr (fun r41 => ?_)
      refine zr_iload (eX1_countExchange 74 rfl) rfl ?_
      refine v_nn (fun a42 ea42 => ?_)
      subst ea42
      refine zr_lald (eX1_countExchange 75 rfl) ?_
      refine zr_aload_n (r := (some a0)) (eX1_countExchange 76 rfl) rfl rfl ?_
      refine zr_getR2 zf_RX1_34 (τ2 := 21) rfl (eX1_countExchange 77 rfl) ?_
      refine v_letr (fun r43 => ?_)
      refine zr_iload (eX1_countExchange 78 rfl) rfl ?_
      refine v_nn (fun a44 ea44 => ?_)
      subst ea44
      refine zr_lald (eX1_countExchange 79 rfl) ?_
      refine zr_lcmp (eX1_countExchange 80 rfl) ?_
      refine v_jn (fun (k46 : Int32 → Option (Int32 × Zh)) => ∀ (x45 : Int32), V l mX1_countExchange (zN h) (zS h) 0 zoI 142 [some (.ref a0, 1), some (va_rf r1, 4), some (va_rf r2, 4), some (va_rf r3, 4), some (.int x45, 0), some (.int x22, 0), some (.int x39, 0)] [] h11 (k46 x45)) ?_ ?_
      · intro x45
        unfold gX1_countExchange_J2
        refine zr_iinc (ls2 := [some (.ref a0, 1), some (va_rf r1, 4), some (va_rf r2, 4), some (va_rf r3, 4), some (.int x45, 0), some (.int x22, 0), some (.int (x39 + 1), 0)]) (eX1_countExchange 83 rfl) rfl (Nat.le_of_ble_eq_true rfl) zk_iconst_1 rfl ?_
        refine zr_goto (eX1_countExchange 84 rfl) (t := 114) (by decide) ?_
        exact v_drop [true, true, true, true, true, true, true] rfl (hk40 x45 (x39 + 1))
      intro k46 hk46
      refine zr_if_eq (eX1_countExchange 81 rfl) (t := 142) (by decide) ?_ ?_
      · exact v_drop [true, true, true, true, true, true, true] rfl (hk46 x38)
      · refine zr_iinc (ls2 := [some (.ref a0, 1), some (va_rf r1, 4), some (va_rf r2, 4), some (va_rf r3, 4), some (.int (x38 + 1), 0), some (.int x22, 0), some (.int x39, 0)]) (eX1_countExchange 82 rfl) rfl (Nat.le_of_ble_eq_true rfl) zk_iconst_1 (by simp only [zst1, zst2, zcl_rf]) ?_
        exact v_drop [true, true, true, true, true, true, true] rfl (hk46 (x38 + 1))
def gX8_init (h : Zh) (a0 : Nat) (r1 : Option Nat) (r2 : Option Nat) (r3 : Option Nat) : Option (Zh) :=
  zlt (zsR h a0 0 r1) (fun (h1 : Zh) => zlt (zsR h1 a0 1 r2) (fun (h2 : Zh) => zlt (zsR h2 a0 2 r3) (fun (h3 : Zh) => some h3)))
set_option maxRecDepth 20000 in
theorem cX8_init_ok (l : Launch) (h : Zh) (a0 : Nat) (r1 : Option Nat) (r2 : Option Nat) (r3 : Option Nat) : Zc l yX8_init mX8_init 0 h [(.ref a0, 8), (va_rf r1, 20), (va_rf r2, 20), (va_rf r3, 20)] ((gX8_init h a0 r1 r2 r3).map zoV) := by
  refine zc_of2 (ls := [some (.ref a0, 8), some (va_rf r1, 20), some (va_rf r2, 20), some (va_rf r3, 20)]) (j := 0) (by decide +kernel) rfl rfl (zEn_ca (zEn_cr (zEn_cr (zEn_cr rfl)))) (Nat.le_of_ble_eq_true rfl) rfl ?_
  unfold gX8_init
  refine zr_aload_n (r := (some a0)) (eX8_init 0 rfl) rfl rfl ?_
  refine zr_objI ⟨zw_137, zw_80, zw_81⟩ ⟨Nat.le_of_ble_eq_true rfl, Nat.le_of_ble_eq_true rfl⟩ (Nat.le_of_ble_eq_true rfl) (eX8_init 1 rfl) ?_
  refine zr_aload_n (r := (some a0)) (eX8_init 2 rfl) rfl rfl ?_
  refine zr_aload_n (r := r1) (eX8_init 3 rfl) rfl rfl ?_
  refine zr_putR (x := r1) zf_RX8_7 (by decide) (fun _ h => h) (Or.inr ⟨rfl, rfl⟩) (eX8_init 4 rfl) ?_
  refine v_leth (fun h1 => ?_)
  refine zr_aload_n (r := (some a0)) (eX8_init 5 rfl) rfl rfl ?_
  refine zr_aload_n (r := r2) (eX8_init 6 rfl) rfl rfl ?_
  refine zr_putR (x := r2) zf_RX8_13 (by decide) (fun _ h => h) (Or.inr ⟨rfl, rfl⟩) (eX8_init 7 rfl) ?_
  refine v_leth (fun h2 => ?_)
  refine zr_aload_n (r := (some a0)) (eX8_init 8 rfl) rfl rfl ?_
  refine zr_aload_n (r := r3) (eX8_init 9 rfl) rfl rfl ?_
  refine zr_putR (x := r3) zf_RX8_16 (by decide) (fun _ h => h) (Or.inr ⟨rfl, rfl⟩) (eX8_init 10 rfl) ?_
  refine v_leth (fun h3 => ?_)
  exact zr_vret rfl rfl (eX8_init 11 rfl)
def gX8_ofNone (h : Zh)  : Option (Option Nat × Zh) :=
  zlt (zN h) (fun a21 => zlt (zA h 8 3) (fun (h1 : Zh) => zg (zok 0) (zlt (zN h1) (fun a22 => zlt (zA h1 20 (zx 0)) (fun (h2 : Zh) => zg (zok 0) (zlt (zN h2) (fun a23 => zlt (zA h2 20 (zx 0)) (fun (h3 : Zh) => zg (zok 0) (zlt (zN h3) (fun a24 => zlt (zA h3 20 (zx 0)) (fun (h4 : Zh) => zbV (gX8_init h4 a21 (some a22) (some a23) (some a24)) (fun h5 => (some ((some a21), h5))))))))))))))
set_option maxRecDepth 20000 in
theorem cX8_ofNone_ok (l : Launch) (h : Zh)  : Zc l yX8_ofNone mX8_ofNone 8 h [] ((gX8_ofNone h ).map zoR) := by
  refine zc_of2 (ls := []) (j := 0) (by decide +kernel) rfl rfl rfl (Nat.le_of_ble_eq_true rfl) rfl ?_
  unfold gX8_ofNone
  refine zr_new zci8 zw_132 zw_133 zw_60 (eX8_ofNone 0 rfl) ?_
  refine zr_leta (fun a21 => ?_)
  refine v_leth (fun h1 => ?_)
  refine zr_dup (eX8_ofNone 1 rfl) rfl ?_
  refine zr_iconst (eX8_ofNone 2 rfl) zk_iconst_0 ?_
  refine zr_newi zw_154 (eX8_ofNone 3 rfl) ?_
  refine zr_leta (fun a22 => ?_)
  refine v_leth (fun h2 => ?_)
  refine zr_iconst (eX8_ofNone 4 rfl) zk_iconst_0 ?_
  refine zr_newi zw_154 (eX8_ofNone 5 rfl) ?_
  refine zr_leta (fun a23 => ?_)
  refine v_leth (fun h3 => ?_)
  refine zr_iconst (eX8_ofNone 6 rfl) zk_iconst_0 ?_
  refine zr_newi zw_154 (eX8_ofNone 7 rfl) ?_
  refine zr_leta (fun a24 => ?_)
  refine v_leth (fun h4 => ?_)
  refine zr_invI_V (as := [(.ref a22, 20), (.ref a23, 20), (.ref a24, 20)]) (cX8_init_ok l h4 a21 (some a22) (some a23) (some a24)) rfl zcd_X8_init rfl rfl ⟨zw_134, zw_135, zw_60⟩ ⟨Nat.le_of_ble_eq_true rfl, Nat.le_of_ble_eq_true rfl⟩ rfl (Nat.le_of_ble_eq_true rfl) (eX8_ofNone 8 rfl) (fun h5 => ?_)
  exact zr_aret (r := (some a21)) rfl rfl (Or.inl ⟨_, rfl⟩) (eX8_ofNone 9 rfl)
def gX2_init_L1 (a0 : Nat) (r25 : Option Nat) : (Int32 → Zh → Option (Zh)) → Int32 → Zh → Option (Zh) :=
  fun (k27 : Int32 → Zh → Option (Zh)) (x26 : Int32) (h9 : Zh) => (if (4 : Int32) ≤ x26 then some h9
  else zlt (zR h9 a0 1) (fun r28 => Option.bind r28 (fun a29 => zg (zin x26 (zL h9 a29)) (zlt (zsR h9 a29 (zx x26) r25) (fun (h10 : Zh) => k27 (x26 + 1) h10)))))
def gX2_init (h : Zh) (a0 : Nat) (r1 : Option Nat) : Option (Zh) :=
  zg (zok 21) (zlt (zN h) (fun a21 => zlt (zA h 22 (zx 21)) (fun (h1 : Zh) => zlt (zsR h1 a0 0 (some a21)) (fun (h2 : Zh) => zg (zok 84) (zlt (zN h2) (fun a22 => zlt (zA h2 25 (zx 84)) (fun (h3 : Zh) => zlt (zsR h3 a0 1 (some a22)) (fun (h4 : Zh) => zlt (zsI h4 a0 2 0) (fun (h5 : Zh) => zlt (zsI h5 a0 3 0) (fun (h6 : Zh) => zlt (zR h6 a0 0) (fun r23 => Option.bind r23 (fun a24 => zg (zin 0 (zL h6 a24)) (zlt (zsR h6 a24 (zx 0) r1) (fun (h7 : Zh) => zbR (gX8_ofNone h7 ) (fun r25 h8 => zlp (fun (_ : Int32) (_ : Zh) => (none : Option (Zh))) (gX2_init_L1 a0 r25) zFU 0 h8)))))))))))))))
set_option maxRecDepth 20000 in
theorem cX2_init_ok (l : Launch) (h : Zh) (a0 : Nat) (r1 : Option Nat) : Zc l yX2_init mX2_init 0 h [(.ref a0, 2), (va_rf r1, 0)] ((gX2_init h a0 r1).map zoV) := by
  refine zc_of2 (ls := [some (.ref a0, 2), some (va_rf r1, 0), none, none]) (j := 2) (by decide +kernel) rfl rfl (zEn_ca (zEn_cr rfl)) (Nat.le_of_ble_eq_true rfl) rfl ?_
  unfold gX2_init
  refine zr_aload_n (r := (some a0)) (eX2_init 0 rfl) rfl rfl ?_
  refine zr_objI ⟨zw_124, zw_80, zw_81⟩ ⟨Nat.le_of_ble_eq_true rfl, Nat.le_of_ble_eq_true rfl⟩ (Nat.le_of_ble_eq_true rfl) (eX2_init 1 rfl) ?_
  refine zr_aload_n (r := (some a0)) (eX2_init 2 rfl) rfl rfl ?_
  refine zr_bipush (eX2_init 3 rfl) zk_bipush_21 ?_
  refine zr_newq zQa_22 zw_125 (eX2_init 4 rfl) ?_
  refine zr_leta (fun a21 => ?_)
  refine v_leth (fun h1 => ?_)
  refine zr_putR (x := (some a21)) zf_RX2_11 (by decide) (fun _ h => h) (Or.inr ⟨rfl, rfl⟩) (eX2_init 5 rfl) ?_
  refine v_leth (fun h2 => ?_)
  refine zr_aload_n (r := (some a0)) (eX2_init 6 rfl) rfl rfl ?_
  refine zr_bipush (eX2_init 7 rfl) zk_bipush_84 ?_
  refine zr_newq zQa_25 zw_127 (eX2_init 8 rfl) ?_
  refine zr_leta (fun a22 => ?_)
  refine v_leth (fun h3 => ?_)
  refine zr_putR (x := (some a22)) zf_RX2_19 (by decide) (fun _ h => h) (Or.inr ⟨rfl, rfl⟩) (eX2_init 9 rfl) ?_
  refine v_leth (fun h4 => ?_)
  refine zr_aload_n (r := (some a0)) (eX2_init 10 rfl) rfl rfl ?_
  refine zr_iconst (eX2_init 11 rfl) zk_iconst_0 ?_
  refine zr_putI zf_RX2_23 rfl (Or.inl rfl) (eX2_init 12 rfl) ?_
  refine v_leth (fun h5 => ?_)
  refine zr_aload_n (r := (some a0)) (eX2_init 13 rfl) rfl rfl ?_
  refine zr_iconst (eX2_init 14 rfl) zk_iconst_0 ?_
  refine zr_putI zf_RX2_27 rfl (Or.inl rfl) (eX2_init 15 rfl) ?_
  refine v_leth (fun h6 => ?_)
  refine zr_aload_n (r := (some a0)) (eX2_init 16 rfl) rfl rfl ?_
  refine zr_getR2 zf_RX2_11 (τ2 := 22) rfl (eX2_init 17 rfl) ?_
  refine v_letr (fun r23 => ?_)
  refine zr_iconst (eX2_init 18 rfl) zk_iconst_0 ?_
  refine zr_aload_n (r := r1) (eX2_init 19 rfl) rfl rfl ?_
  refine v_nn (fun a24 ea24 => ?_)
  subst ea24
  refine zr_aast (r := r1) zQa_22 (fun _ h => h) (by decide) (eX2_init 20 rfl) ?_
  refine v_leth (fun h7 => ?_)
  refine zr_invS_R (as := []) (cX8_ofNone_ok l h7 ) rfl zcd_X8_ofNone ⟨zw_129, zw_130, zw_60⟩ ⟨Nat.le_of_ble_eq_true rfl, Nat.le_of_ble_eq_true rfl⟩ rfl (Nat.le_of_ble_eq_true rfl) (eX2_init 21 rfl) (fun r25 h8 => ?_)
  refine zr_astore_n (r := r25) (ls2 := [some (.ref a0, 2), some (va_rf r1, 0), some (va_rf r25, 8), none]) (eX2_init 22 rfl) rfl (Nat.le_of_ble_eq_true rfl) (by simp only [zst1, zst2, zcl_rf]) ?_
  refine zr_iconst (eX2_init 23 rfl) zk_iconst_0 ?_
  refine zr_istore_n (ls2 := [some (.ref a0, 2), some (va_rf r1, 0), some (va_rf r25, 8), some (.int 0, 0)]) (eX2_init 24 rfl) rfl (Nat.le_of_ble_eq_true rfl) (by simp only [zst1, zst2, zcl_rf]) ?_
  refine v_drop [true, false, true, true] rfl ?_
  refine zlp_ind (fun (k27 : Int32 → Zh → Option (Zh)) => ∀ (x26 : Int32) (h9 : Zh), V l mX2_init (zN h) (zS h) 0 zoV 45 [some (.ref a0, 2), none, some (va_rf r25, 8), some (.int x26, 0)] [] h9 (k27 x26 h9)) ?_ ?_ 0 h8
  · exact fun _ _ => v_none
  intro k27 hk27 x26 h9
  unfold gX2_init_L1
  refine zr_iload_n (eX2_init 25 rfl) rfl rfl ?_
  refine zr_iconst (eX2_init 26 rfl) zk_iconst_4 ?_
  refine zr_icmp_ge (eX2_init 27 rfl) (t := 63) (by decide) ?_ ?_
  · exact zr_vret rfl rfl (eX2_init 35 rfl)
  · refine zr_aload_n (r := (some a0)) (eX2_init 28 rfl) rfl rfl ?_
    refine zr_getR2 zf_RX2_19 (τ2 := 25) rfl (eX2_init 29 rfl) ?_
    refine v_letr (fun r28 => ?_)
    refine zr_iload_n (eX2_init 30 rfl) rfl rfl ?_
    refine zr_aload_n (r := r25) (eX2_init 31 rfl) rfl rfl ?_
    refine v_nn (fun a29 ea29 => ?_)
    subst ea29
    refine zr_aast (r := r25) zQa_25 (fun _ h => h) (by decide) (eX2_init 32 rfl) ?_
    refine v_leth (fun h10 => ?_)
    refine zr_iinc (ls2 := [some (.ref a0, 2), none, some (va_rf r25, 8), some (.int (x26 + 1), 0)]) (eX2_init 33 rfl) rfl (Nat.le_of_ble_eq_true rfl) zk_iconst_1 (by simp only [zst1, zst2, zcl_rf]) ?_
    refine zr_goto (eX2_init 34 rfl) (t := 45) (by decide) ?_
    exact v_drop [true, false, true, true] rfl (hk27 (x26 + 1) h10)
def gX2_chainNow (h : Zh) (a0 : Nat) : Option (Option Nat) :=
  zlt (zR h a0 0) (fun r21 => Option.bind r21 (fun a22 => zg (zin (zI h a0 2) (zL h a22)) (zlt (zR h a22 (zx (zI h a0 2))) (fun r23 => (some r23)))))
set_option maxRecDepth 20000 in
theorem cX2_chainNow_ok (l : Launch) (h : Zh) (a0 : Nat) : Zc l yX2_chainNow mX2_chainNow 0 h [(.ref a0, 2)] ((gX2_chainNow h a0).map (zor h)) := by
  refine zc_of2 (ls := [some (.ref a0, 2)]) (j := 0) (by decide +kernel) rfl rfl (zEn_ca rfl) (Nat.le_of_ble_eq_true rfl) rfl ?_
  unfold gX2_chainNow
  refine zr_aload_n (r := (some a0)) (eX2_chainNow 0 rfl) rfl rfl ?_
  refine zr_getR2 zf_RX2_11 (τ2 := 22) rfl (eX2_chainNow 1 rfl) ?_
  refine v_letr (fun r21 => ?_)
  refine zr_aload_n (r := (some a0)) (eX2_chainNow 2 rfl) rfl rfl ?_
  refine zr_getI zf_RX2_23 ⟨by decide, by decide⟩ (eX2_chainNow 3 rfl) ?_
  refine v_nn (fun a22 ea22 => ?_)
  subst ea22
  refine zr_aald zQa_22 (eX2_chainNow 4 rfl) ?_
  refine v_letr (fun r23 => ?_)
  exact zr_aret (r := r23) rfl rfl (Or.inl ⟨_, rfl⟩) (eX2_chainNow 5 rfl)
def gX2_sumNow (h : Zh) (a0 : Nat) (x1 : Int32) : Option (Option Nat) :=
  zlt (zR h a0 1) (fun r21 => Option.bind r21 (fun a22 => zg (zin (((zI h a0 2) * 4) + x1) (zL h a22)) (zlt (zR h a22 (zx (((zI h a0 2) * 4) + x1))) (fun r23 => (some r23)))))
set_option maxRecDepth 20000 in
theorem cX2_sumNow_ok (l : Launch) (h : Zh) (a0 : Nat) (x1 : Int32) : Zc l yX2_sumNow mX2_sumNow 8 h [(.ref a0, 2), (.int x1, 0)] ((gX2_sumNow h a0 x1).map (zor h)) := by
  refine zc_of2 (ls := [some (.ref a0, 2), some (.int x1, 0)]) (j := 0) (by decide +kernel) rfl rfl (zEn_ca (zEn_ci rfl)) (Nat.le_of_ble_eq_true rfl) rfl ?_
  unfold gX2_sumNow
  refine zr_aload_n (r := (some a0)) (eX2_sumNow 0 rfl) rfl rfl ?_
  refine zr_getR2 zf_RX2_19 (τ2 := 25) rfl (eX2_sumNow 1 rfl) ?_
  refine v_letr (fun r21 => ?_)
  refine zr_aload_n (r := (some a0)) (eX2_sumNow 2 rfl) rfl rfl ?_
  refine zr_getI zf_RX2_23 ⟨by decide, by decide⟩ (eX2_sumNow 3 rfl) ?_
  refine zr_iconst (eX2_sumNow 4 rfl) zk_iconst_4 ?_
  refine zr_imul (eX2_sumNow 5 rfl) ?_
  refine zr_iload_n (eX2_sumNow 6 rfl) rfl rfl ?_
  refine zr_iadd (eX2_sumNow 7 rfl) ?_
  refine v_nn (fun a22 ea22 => ?_)
  subst ea22
  refine zr_aald zQa_25 (eX2_sumNow 8 rfl) ?_
  refine v_letr (fun r23 => ?_)
  exact zr_aret (r := r23) rfl rfl (Or.inl ⟨_, rfl⟩) (eX2_sumNow 9 rfl)
def gX2_copyMoment_L1 (a0 : Nat) (x1 : Int32) (x2 : Int32) : (Int32 → Zh → Option (Zh)) → Int32 → Zh → Option (Zh) :=
  fun (k27 : Int32 → Zh → Option (Zh)) (x26 : Int32) (h2 : Zh) => (if (4 : Int32) ≤ x26 then some h2
  else zlt (zR h2 a0 1) (fun r28 => zlt (zR h2 a0 1) (fun r29 => Option.bind r29 (fun a30 => zg (zin ((x1 * 4) + x26) (zL h2 a30)) (zlt (zR h2 a30 (zx ((x1 * 4) + x26))) (fun r31 => Option.bind r28 (fun a32 => zg (zin ((x2 * 4) + x26) (zL h2 a32)) (zlt (zsR h2 a32 (zx ((x2 * 4) + x26)) r31) (fun (h3 : Zh) => k27 (x26 + 1) h3)))))))))
def gX2_copyMoment (h : Zh) (a0 : Nat) (x1 : Int32) (x2 : Int32) : Option (Zh) :=
  zlt (zR h a0 0) (fun r21 => zlt (zR h a0 0) (fun r22 => Option.bind r22 (fun a23 => zg (zin x1 (zL h a23)) (zlt (zR h a23 (zx x1)) (fun r24 => Option.bind r21 (fun a25 => zg (zin x2 (zL h a25)) (zlt (zsR h a25 (zx x2) r24) (fun (h1 : Zh) => zlp (fun (_ : Int32) (_ : Zh) => (none : Option (Zh))) (gX2_copyMoment_L1 a0 x1 x2) zFU 0 h1))))))))
set_option maxRecDepth 20000 in
theorem cX2_copyMoment_ok (l : Launch) (h : Zh) (a0 : Nat) (x1 : Int32) (x2 : Int32) : Zc l yX2_copyMoment mX2_copyMoment 0 h [(.ref a0, 2), (.int x1, 0), (.int x2, 0)] ((gX2_copyMoment h a0 x1 x2).map zoV) := by
  refine zc_of2 (ls := [some (.ref a0, 2), some (.int x1, 0), some (.int x2, 0), none]) (j := 1) (by decide +kernel) rfl rfl (zEn_ca (zEn_ci (zEn_ci rfl))) (Nat.le_of_ble_eq_true rfl) rfl ?_
  unfold gX2_copyMoment
  refine zr_aload_n (r := (some a0)) (eX2_copyMoment 0 rfl) rfl rfl ?_
  refine zr_getR2 zf_RX2_11 (τ2 := 22) rfl (eX2_copyMoment 1 rfl) ?_
  refine v_letr (fun r21 => ?_)
  refine zr_iload_n (eX2_copyMoment 2 rfl) rfl rfl ?_
  refine zr_aload_n (r := (some a0)) (eX2_copyMoment 3 rfl) rfl rfl ?_
  refine zr_getR2 zf_RX2_11 (τ2 := 22) rfl (eX2_copyMoment 4 rfl) ?_
  refine v_letr (fun r22 => ?_)
  refine zr_iload_n (eX2_copyMoment 5 rfl) rfl rfl ?_
  refine v_nn (fun a23 ea23 => ?_)
  subst ea23
  refine zr_aald zQa_22 (eX2_copyMoment 6 rfl) ?_
  refine v_letr (fun r24 => ?_)
  refine v_nn (fun a25 ea25 => ?_)
  subst ea25
  refine zr_aast (r := r24) zQa_22 (fun _ h => h) (by decide) (eX2_copyMoment 7 rfl) ?_
  refine v_leth (fun h1 => ?_)
  refine zr_iconst (eX2_copyMoment 8 rfl) zk_iconst_0 ?_
  refine zr_istore_n (ls2 := [some (.ref a0, 2), some (.int x1, 0), some (.int x2, 0), some (.int 0, 0)]) (eX2_copyMoment 9 rfl) rfl (Nat.le_of_ble_eq_true rfl) rfl ?_
  refine v_drop [true, true, true, true] rfl ?_
  refine zlp_ind (fun (k27 : Int32 → Zh → Option (Zh)) => ∀ (x26 : Int32) (h2 : Zh), V l mX2_copyMoment (zN h) (zS h) 0 zoV 14 [some (.ref a0, 2), some (.int x1, 0), some (.int x2, 0), some (.int x26, 0)] [] h2 (k27 x26 h2)) ?_ ?_ 0 h1
  · exact fun _ _ => v_none
  intro k27 hk27 x26 h2
  unfold gX2_copyMoment_L1
  refine zr_iload_n (eX2_copyMoment 10 rfl) rfl rfl ?_
  refine zr_iconst (eX2_copyMoment 11 rfl) zk_iconst_4 ?_
  refine zr_icmp_ge (eX2_copyMoment 12 rfl) (t := 45) (by decide) ?_ ?_
  · exact zr_vret rfl rfl (eX2_copyMoment 31 rfl)
  · refine zr_aload_n (r := (some a0)) (eX2_copyMoment 13 rfl) rfl rfl ?_
    refine zr_getR2 zf_RX2_19 (τ2 := 25) rfl (eX2_copyMoment 14 rfl) ?_
    refine v_letr (fun r28 => ?_)
    refine zr_iload_n (eX2_copyMoment 15 rfl) rfl rfl ?_
    refine zr_iconst (eX2_copyMoment 16 rfl) zk_iconst_4 ?_
    refine zr_imul (eX2_copyMoment 17 rfl) ?_
    refine zr_iload_n (eX2_copyMoment 18 rfl) rfl rfl ?_
    refine zr_iadd (eX2_copyMoment 19 rfl) ?_
    refine zr_aload_n (r := (some a0)) (eX2_copyMoment 20 rfl) rfl rfl ?_
    refine zr_getR2 zf_RX2_19 (τ2 := 25) rfl (eX2_copyMoment 21 rfl) ?_
    refine v_letr (fun r29 => ?_)
    refine zr_iload_n (eX2_copyMoment 22 rfl) rfl rfl ?_
    refine zr_iconst (eX2_copyMoment 23 rfl) zk_iconst_4 ?_
    refine zr_imul (eX2_copyMoment 24 rfl) ?_
    refine zr_iload_n (eX2_copyMoment 25 rfl) rfl rfl ?_
    refine zr_iadd (eX2_copyMoment 26 rfl) ?_
    refine v_nn (fun a30 ea30 => ?_)
    subst ea30
    refine zr_aald zQa_25 (eX2_copyMoment 27 rfl) ?_
    refine v_letr (fun r31 => ?_)
    refine v_nn (fun a32 ea32 => ?_)
    subst ea32
    refine zr_aast (r := r31) zQa_25 (fun _ h => h) (by decide) (eX2_copyMoment 28 rfl) ?_
    refine v_leth (fun h3 => ?_)
    refine zr_iinc (ls2 := [some (.ref a0, 2), some (.int x1, 0), some (.int x2, 0), some (.int (x26 + 1), 0)]) (eX2_copyMoment 29 rfl) rfl (Nat.le_of_ble_eq_true rfl) zk_iconst_1 rfl ?_
    refine zr_goto (eX2_copyMoment 30 rfl) (t := 14) (by decide) ?_
    exact v_drop [true, true, true, true] rfl (hk27 (x26 + 1) h3)
def gX2_step_J1 (a0 : Nat) : Zh → Option (Zh) :=
  fun (h1 : Zh) => zbV (gX2_copyMoment h1 a0 (zI h1 a0 2) ((zI h1 a0 2) + 1)) (fun h2 => zlt (zsI h2 a0 2 ((zI h2 a0 2) + 1)) (fun (h3 : Zh) => zlt (zsI h3 a0 3 (zI h3 a0 2)) (fun (h4 : Zh) => some h4)))
def gX2_step_J2 (a0 : Nat) (k21 : Zh → Option (Zh)) : Zh → Option (Zh) :=
  fun (h5 : Zh) => zlt (zsI h5 a0 2 ((zI h5 a0 2) - 1)) (fun (h6 : Zh) => k21 h6)
def gX2_step_L3 (a0 : Nat) (k22 : Zh → Option (Zh)) : (Int32 → Zh → Option (Zh)) → Int32 → Zh → Option (Zh) :=
  fun (k24 : Int32 → Zh → Option (Zh)) (x23 : Int32) (h7 : Zh) => (if (20 : Int32) ≤ x23 then k22 h7
  else zbV (gX2_copyMoment h7 a0 (x23 + 1) x23) (fun h8 => k24 (x23 + 1) h8))
def gX2_step (h : Zh) (a0 : Nat) : Option (Zh) :=
  zjn (gX2_step_J1 a0) (fun (k21 : Zh → Option (Zh)) =>
  (if ((zI h a0 2) : Int32) = 20 then zjn (gX2_step_J2 a0 k21) (fun (k22 : Zh → Option (Zh)) =>
  zlp (fun (_ : Int32) (_ : Zh) => (none : Option (Zh))) (gX2_step_L3 a0 k22) zFU 0 h)
  else k21 h))
set_option maxRecDepth 20000 in
theorem cX2_step_ok (l : Launch) (h : Zh) (a0 : Nat) : Zc l yX2_step mX2_step 0 h [(.ref a0, 2)] ((gX2_step h a0).map zoV) := by
  refine zc_of2 (ls := [some (.ref a0, 2), none]) (j := 1) (by decide +kernel) rfl rfl (zEn_ca rfl) (Nat.le_of_ble_eq_true rfl) rfl ?_
  unfold gX2_step
  refine zr_aload_n (r := (some a0)) (eX2_step 0 rfl) rfl rfl ?_
  refine zr_getI zf_RX2_23 ⟨by decide, by decide⟩ (eX2_step 1 rfl) ?_
  refine zr_bipush (eX2_step 2 rfl) zk_bipush_20 ?_
  refine v_jn (fun (k21 : Zh → Option (Zh)) => ∀ (h1 : Zh), V l mX2_step (zN h) (zS h) 0 zoV 41 [some (.ref a0, 2), none] [] h1 (k21 h1)) ?_ ?_
  · intro h1
    unfold gX2_step_J1
    refine zr_aload_n (r := (some a0)) (eX2_step 23 rfl) rfl rfl ?_
    refine zr_aload_n (r := (some a0)) (eX2_step 24 rfl) rfl rfl ?_
    refine zr_getI zf_RX2_23 ⟨by decide, by decide⟩ (eX2_step 25 rfl) ?_
    refine zr_aload_n (r := (some a0)) (eX2_step 26 rfl) rfl rfl ?_
    refine zr_getI zf_RX2_23 ⟨by decide, by decide⟩ (eX2_step 27 rfl) ?_
    refine zr_iconst (eX2_step 28 rfl) zk_iconst_1 ?_
    refine zr_iadd (eX2_step 29 rfl) ?_
    refine zr_invV_V (as := [(.int (zI h1 a0 2), 0), (.int ((zI h1 a0 2) + 1), 0)]) (cX2_copyMoment_ok l h1 a0 (zI h1 a0 2) ((zI h1 a0 2) + 1)) rfl rfl ⟨by decide, by decide, by decide⟩ zcd_X2_copyMoment rfl ⟨zw_223, zw_225, zw_1, zw_58⟩ ⟨Nat.le_of_ble_eq_true rfl, Nat.le_of_ble_eq_true rfl⟩ rfl (Nat.le_of_ble_eq_true rfl) (eX2_step 30 rfl) (fun h2 => ?_)
    refine zr_aload_n (r := (some a0)) (eX2_step 31 rfl) rfl rfl ?_
    refine zr_dup (eX2_step 32 rfl) rfl ?_
    refine zr_getI zf_RX2_23 ⟨by decide, by decide⟩ (eX2_step 33 rfl) ?_
    refine zr_iconst (eX2_step 34 rfl) zk_iconst_1 ?_
    refine zr_iadd (eX2_step 35 rfl) ?_
    refine zr_putI zf_RX2_23 rfl (Or.inl rfl) (eX2_step 36 rfl) ?_
    refine v_leth (fun h3 => ?_)
    refine zr_aload_n (r := (some a0)) (eX2_step 37 rfl) rfl rfl ?_
    refine zr_aload_n (r := (some a0)) (eX2_step 38 rfl) rfl rfl ?_
    refine zr_getI zf_RX2_23 ⟨by decide, by decide⟩ (eX2_step 39 rfl) ?_
    refine zr_putI zf_RX2_27 rfl (Or.inl rfl) (eX2_step 40 rfl) ?_
    refine v_leth (fun h4 => ?_)
    exact zr_vret rfl rfl (eX2_step 41 rfl)
  intro k21 hk21
  refine zr_icmp_ne (eX2_step 3 rfl) (t := 41) (by decide) ?_ ?_
  · exact v_drop [true, false] rfl (hk21 h)
  · refine zr_iconst (eX2_step 4 rfl) zk_iconst_0 ?_
    refine zr_istore_n (ls2 := [some (.ref a0, 2), some (.int 0, 0)]) (eX2_step 5 rfl) rfl (Nat.le_of_ble_eq_true rfl) rfl ?_
    refine v_jn (fun (k22 : Zh → Option (Zh)) => ∀ (h5 : Zh), V l mX2_step (zN h) (zS h) 0 zoV 31 [some (.ref a0, 2), none] [] h5 (k22 h5)) ?_ ?_
    · intro h5
      unfold gX2_step_J2
      refine zr_aload_n (r := (some a0)) (eX2_step 17 rfl) rfl rfl ?_
      refine zr_dup (eX2_step 18 rfl) rfl ?_
      refine zr_getI zf_RX2_23 ⟨by decide, by decide⟩ (eX2_step 19 rfl) ?_
      refine zr_iconst (eX2_step 20 rfl) zk_iconst_1 ?_
      refine zr_isub (eX2_step 21 rfl) ?_
      refine zr_putI zf_RX2_23 rfl (Or.inl rfl) (eX2_step 22 rfl) ?_
      refine v_leth (fun h6 => ?_)
      exact v_drop [true, false] rfl (hk21 h6)
    intro k22 hk22
    refine v_drop [true, true] rfl ?_
    refine zlp_ind (fun (k24 : Int32 → Zh → Option (Zh)) => ∀ (x23 : Int32) (h7 : Zh), V l mX2_step (zN h) (zS h) 0 zoV 11 [some (.ref a0, 2), some (.int x23, 0)] [] h7 (k24 x23 h7)) ?_ ?_ 0 h
    · exact fun _ _ => v_none
    intro k24 hk24 x23 h7
    unfold gX2_step_L3
    refine zr_iload_n (eX2_step 6 rfl) rfl rfl ?_
    refine zr_bipush (eX2_step 7 rfl) zk_bipush_20 ?_
    refine zr_icmp_ge (eX2_step 8 rfl) (t := 31) (by decide) ?_ ?_
    · exact v_drop [true, false] rfl (hk22 h7)
    · refine zr_aload_n (r := (some a0)) (eX2_step 9 rfl) rfl rfl ?_
      refine zr_iload_n (eX2_step 10 rfl) rfl rfl ?_
      refine zr_iconst (eX2_step 11 rfl) zk_iconst_1 ?_
      refine zr_iadd (eX2_step 12 rfl) ?_
      refine zr_iload_n (eX2_step 13 rfl) rfl rfl ?_
      refine zr_invV_V (as := [(.int (x23 + 1), 0), (.int x23, 0)]) (cX2_copyMoment_ok l h7 a0 (x23 + 1) x23) rfl rfl ⟨by decide, by decide, by decide⟩ zcd_X2_copyMoment rfl ⟨zw_223, zw_225, zw_1, zw_58⟩ ⟨Nat.le_of_ble_eq_true rfl, Nat.le_of_ble_eq_true rfl⟩ rfl (Nat.le_of_ble_eq_true rfl) (eX2_step 14 rfl) (fun h8 => ?_)
      refine zr_iinc (ls2 := [some (.ref a0, 2), some (.int (x23 + 1), 0)]) (eX2_step 15 rfl) rfl (Nat.le_of_ble_eq_true rfl) zk_iconst_1 rfl ?_
      refine zr_goto (eX2_step 16 rfl) (t := 11) (by decide) ?_
      exact v_drop [true, true] rfl (hk24 (x23 + 1) h8)
def gX2_recordChain (h : Zh) (a0 : Nat) (r1 : Option Nat) : Option (Zh) :=
  zbV (gX2_step h a0) (fun h1 => zlt (zR h1 a0 0) (fun r21 => Option.bind r21 (fun a22 => zg (zin (zI h1 a0 2) (zL h1 a22)) (zlt (zsR h1 a22 (zx (zI h1 a0 2)) r1) (fun (h2 : Zh) => some h2)))))
set_option maxRecDepth 20000 in
theorem cX2_recordChain_ok (l : Launch) (h : Zh) (a0 : Nat) (r1 : Option Nat) : Zc l yX2_recordChain mX2_recordChain 0 h [(.ref a0, 2), (va_rf r1, 0)] ((gX2_recordChain h a0 r1).map zoV) := by
  refine zc_of2 (ls := [some (.ref a0, 2), some (va_rf r1, 0)]) (j := 0) (by decide +kernel) rfl rfl (zEn_ca (zEn_cr rfl)) (Nat.le_of_ble_eq_true rfl) rfl ?_
  unfold gX2_recordChain
  refine zr_aload_n (r := (some a0)) (eX2_recordChain 0 rfl) rfl rfl ?_
  refine zr_invV_V (as := []) (cX2_step_ok l h a0) rfl rfl ⟨by decide, by decide, by decide⟩ zcd_X2_step rfl ⟨zw_219, zw_221, zw_0, zw_58⟩ ⟨Nat.le_of_ble_eq_true rfl, Nat.le_of_ble_eq_true rfl⟩ rfl (Nat.le_of_ble_eq_true rfl) (eX2_recordChain 1 rfl) (fun h1 => ?_)
  refine zr_aload_n (r := (some a0)) (eX2_recordChain 2 rfl) rfl rfl ?_
  refine zr_getR2 zf_RX2_11 (τ2 := 22) rfl (eX2_recordChain 3 rfl) ?_
  refine v_letr (fun r21 => ?_)
  refine zr_aload_n (r := (some a0)) (eX2_recordChain 4 rfl) rfl rfl ?_
  refine zr_getI zf_RX2_23 ⟨by decide, by decide⟩ (eX2_recordChain 5 rfl) ?_
  refine zr_aload_n (r := r1) (eX2_recordChain 6 rfl) rfl rfl ?_
  refine v_nn (fun a22 ea22 => ?_)
  subst ea22
  refine zr_aast (r := r1) zQa_22 (fun _ h => h) (by decide) (eX2_recordChain 7 rfl) ?_
  refine v_leth (fun h2 => ?_)
  exact zr_vret rfl rfl (eX2_recordChain 8 rfl)
def gX2_recordSum (h : Zh) (a0 : Nat) (x1 : Int32) (r2 : Option Nat) : Option (Zh) :=
  zbV (gX2_step h a0) (fun h1 => zlt (zR h1 a0 1) (fun r21 => Option.bind r21 (fun a22 => zg (zin (((zI h1 a0 2) * 4) + x1) (zL h1 a22)) (zlt (zsR h1 a22 (zx (((zI h1 a0 2) * 4) + x1)) r2) (fun (h2 : Zh) => some h2)))))
set_option maxRecDepth 20000 in
theorem cX2_recordSum_ok (l : Launch) (h : Zh) (a0 : Nat) (x1 : Int32) (r2 : Option Nat) : Zc l yX2_recordSum mX2_recordSum 0 h [(.ref a0, 2), (.int x1, 0), (va_rf r2, 8)] ((gX2_recordSum h a0 x1 r2).map zoV) := by
  refine zc_of2 (ls := [some (.ref a0, 2), some (.int x1, 0), some (va_rf r2, 8)]) (j := 0) (by decide +kernel) rfl rfl (zEn_ca (zEn_ci (zEn_cr rfl))) (Nat.le_of_ble_eq_true rfl) rfl ?_
  unfold gX2_recordSum
  refine zr_aload_n (r := (some a0)) (eX2_recordSum 0 rfl) rfl rfl ?_
  refine zr_invV_V (as := []) (cX2_step_ok l h a0) rfl rfl ⟨by decide, by decide, by decide⟩ zcd_X2_step rfl ⟨zw_219, zw_221, zw_0, zw_58⟩ ⟨Nat.le_of_ble_eq_true rfl, Nat.le_of_ble_eq_true rfl⟩ rfl (Nat.le_of_ble_eq_true rfl) (eX2_recordSum 1 rfl) (fun h1 => ?_)
  refine zr_aload_n (r := (some a0)) (eX2_recordSum 2 rfl) rfl rfl ?_
  refine zr_getR2 zf_RX2_19 (τ2 := 25) rfl (eX2_recordSum 3 rfl) ?_
  refine v_letr (fun r21 => ?_)
  refine zr_aload_n (r := (some a0)) (eX2_recordSum 4 rfl) rfl rfl ?_
  refine zr_getI zf_RX2_23 ⟨by decide, by decide⟩ (eX2_recordSum 5 rfl) ?_
  refine zr_iconst (eX2_recordSum 6 rfl) zk_iconst_4 ?_
  refine zr_imul (eX2_recordSum 7 rfl) ?_
  refine zr_iload_n (eX2_recordSum 8 rfl) rfl rfl ?_
  refine zr_iadd (eX2_recordSum 9 rfl) ?_
  refine zr_aload_n (r := r2) (eX2_recordSum 10 rfl) rfl rfl ?_
  refine v_nn (fun a22 ea22 => ?_)
  subst ea22
  refine zr_aast (r := r2) zQa_25 (fun _ h => h) (by decide) (eX2_recordSum 11 rfl) ?_
  refine v_leth (fun h2 => ?_)
  exact zr_vret rfl rfl (eX2_recordSum 12 rfl)
def gX2_back (h : Zh) (a0 : Nat) : Option (Int32 × Zh) :=
  (if ((zI h a0 2) : Int32) = 0 then (some (0, h))
  else zlt (zsI h a0 2 ((zI h a0 2) - 1)) (fun (h1 : Zh) => (some (1, h1))))
set_option maxRecDepth 20000 in
theorem cX2_back_ok (l : Launch) (h : Zh) (a0 : Nat) : Zc l yX2_back mX2_back 0 h [(.ref a0, 2)] ((gX2_back h a0).map zoI) := by
  refine zc_of2 (ls := [some (.ref a0, 2)]) (j := 0) (by decide +kernel) rfl rfl (zEn_ca rfl) (Nat.le_of_ble_eq_true rfl) rfl ?_
  unfold gX2_back
  refine zr_aload_n (r := (some a0)) (eX2_back 0 rfl) rfl rfl ?_
  refine zr_getI zf_RX2_23 ⟨by decide, by decide⟩ (eX2_back 1 rfl) ?_
  refine zr_if_ne (eX2_back 2 rfl) (t := 9) (by decide) ?_ ?_
  · refine zr_aload_n (r := (some a0)) (eX2_back 5 rfl) rfl rfl ?_
    refine zr_dup (eX2_back 6 rfl) rfl ?_
    refine zr_getI zf_RX2_23 ⟨by decide, by decide⟩ (eX2_back 7 rfl) ?_
    refine zr_iconst (eX2_back 8 rfl) zk_iconst_1 ?_
    refine zr_isub (eX2_back 9 rfl) ?_
    refine zr_putI zf_RX2_23 rfl (Or.inl rfl) (eX2_back 10 rfl) ?_
    refine v_leth (fun h1 => ?_)
    refine zr_iconst (eX2_back 11 rfl) zk_iconst_1 ?_
    exact zr_zret rfl (by decide) rfl (eX2_back 12 rfl)
  · refine zr_iconst (eX2_back 3 rfl) zk_iconst_0 ?_
    exact zr_zret rfl (by decide) rfl (eX2_back 4 rfl)
