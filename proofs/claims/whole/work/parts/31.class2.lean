def gX2_forth (h : Zh) (a0 : Nat) : Option (Int32 × Zh) :=
  (if ((zI h a0 2) : Int32) < (zI h a0 3) then zlt (zsI h a0 2 ((zI h a0 2) + 1)) (fun (h1 : Zh) => (some (1, h1)))
  else (some (0, h)))
set_option maxRecDepth 20000 in
theorem cX2_forth_ok (l : Launch) (h : Zh) (a0 : Nat) : Zc l yX2_forth mX2_forth 0 h [(.ref a0, 2)] ((gX2_forth h a0).map zoI) := by
  refine zc_of2 (ls := [some (.ref a0, 2)]) (j := 0) (by decide +kernel) rfl rfl (zEn_ca rfl) (Nat.le_of_ble_eq_true rfl) rfl ?_
  unfold gX2_forth
  refine zr_aload_n (r := (some a0)) (eX2_forth 0 rfl) rfl rfl ?_
  refine zr_getI zf_RX2_23 ⟨by decide, by decide⟩ (eX2_forth 1 rfl) ?_
  refine zr_aload_n (r := (some a0)) (eX2_forth 2 rfl) rfl rfl ?_
  refine zr_getI zf_RX2_27 ⟨by decide, by decide⟩ (eX2_forth 3 rfl) ?_
  refine zr_icmp_lt (eX2_forth 4 rfl) (t := 13) (by decide) ?_ ?_
  · refine zr_aload_n (r := (some a0)) (eX2_forth 7 rfl) rfl rfl ?_
    refine zr_dup (eX2_forth 8 rfl) rfl ?_
    refine zr_getI zf_RX2_23 ⟨by decide, by decide⟩ (eX2_forth 9 rfl) ?_
    refine zr_iconst (eX2_forth 10 rfl) zk_iconst_1 ?_
    refine zr_iadd (eX2_forth 11 rfl) ?_
    refine zr_putI zf_RX2_23 rfl (Or.inl rfl) (eX2_forth 12 rfl) ?_
    refine v_leth (fun h1 => ?_)
    refine zr_iconst (eX2_forth 13 rfl) zk_iconst_1 ?_
    exact zr_zret rfl (by decide) rfl (eX2_forth 14 rfl)
  · refine zr_iconst (eX2_forth 5 rfl) zk_iconst_0 ?_
    exact zr_zret rfl (by decide) rfl (eX2_forth 6 rfl)
def gX2_undoable (h : Zh) (a0 : Nat) : Option (Int32) :=
  (some (zI h a0 2))
set_option maxRecDepth 20000 in
theorem cX2_undoable_ok (l : Launch) (h : Zh) (a0 : Nat) : Zc l yX2_undoable mX2_undoable 0 h [(.ref a0, 2)] ((gX2_undoable h a0).map (zoi h)) := by
  refine zc_of2 (ls := [some (.ref a0, 2)]) (j := 0) (by decide +kernel) rfl rfl (zEn_ca rfl) (Nat.le_of_ble_eq_true rfl) rfl ?_
  unfold gX2_undoable
  refine zr_aload_n (r := (some a0)) (eX2_undoable 0 rfl) rfl rfl ?_
  refine zr_getI zf_RX2_23 ⟨by decide, by decide⟩ (eX2_undoable 1 rfl) ?_
  exact zr_iret rfl rfl (eX2_undoable 2 rfl)
def gX2_redoable (h : Zh) (a0 : Nat) : Option (Int32) :=
  (some ((zI h a0 3) - (zI h a0 2)))
set_option maxRecDepth 20000 in
theorem cX2_redoable_ok (l : Launch) (h : Zh) (a0 : Nat) : Zc l yX2_redoable mX2_redoable 0 h [(.ref a0, 2)] ((gX2_redoable h a0).map (zoi h)) := by
  refine zc_of2 (ls := [some (.ref a0, 2)]) (j := 0) (by decide +kernel) rfl rfl (zEn_ca rfl) (Nat.le_of_ble_eq_true rfl) rfl ?_
  unfold gX2_redoable
  refine zr_aload_n (r := (some a0)) (eX2_redoable 0 rfl) rfl rfl ?_
  refine zr_getI zf_RX2_27 ⟨by decide, by decide⟩ (eX2_redoable 1 rfl) ?_
  refine zr_aload_n (r := (some a0)) (eX2_redoable 2 rfl) rfl rfl ?_
  refine zr_getI zf_RX2_23 ⟨by decide, by decide⟩ (eX2_redoable 3 rfl) ?_
  refine zr_isub (eX2_redoable 4 rfl) ?_
  exact zr_iret rfl rfl (eX2_redoable 5 rfl)
def gX3_init (h : Zh) (a0 : Nat) : Option (Zh) :=
  zg (zok 60) (zlt (zN h) (fun a21 => zlt (zA h 20 (zx 60)) (fun (h1 : Zh) => zlt (zsR h1 a0 0 (some a21)) (fun (h2 : Zh) => zg (zok 60) (zlt (zN h2) (fun a22 => zlt (zA h2 20 (zx 60)) (fun (h3 : Zh) => zlt (zsR h3 a0 1 (some a22)) (fun (h4 : Zh) => zg (zok 60) (zlt (zN h4) (fun a23 => zlt (zA h4 20 (zx 60)) (fun (h5 : Zh) => zlt (zsR h5 a0 2 (some a23)) (fun (h6 : Zh) => zg (zok 257) (zlt (zN h6) (fun a24 => zlt (zA h6 20 (zx 257)) (fun (h7 : Zh) => zlt (zsR h7 a0 3 (some a24)) (fun (h8 : Zh) => zg (zok 64) (zlt (zN h8) (fun a25 => zlt (zA h8 20 (zx 64)) (fun (h9 : Zh) => zlt (zsR h9 a0 4 (some a25)) (fun (h10 : Zh) => zg (zok 64) (zlt (zN h10) (fun a26 => zlt (zA h10 20 (zx 64)) (fun (h11 : Zh) => zlt (zsR h11 a0 5 (some a26)) (fun (h12 : Zh) => zlt (zsI h12 a0 6 0) (fun (h13 : Zh) => zlt (zsI h13 a0 7 0) (fun (h14 : Zh) => zlt (zsJ h14 a0 8 0) (fun (h15 : Zh) => zlt (zsJ h15 a0 9 0) (fun (h16 : Zh) => some h16))))))))))))))))))))))))))))
set_option maxRecDepth 20000 in
theorem cX3_init_ok (l : Launch) (h : Zh) (a0 : Nat) : Zc l yX3_init mX3_init 0 h [(.ref a0, 3)] ((gX3_init h a0).map zoV) := by
  refine zc_of2 (ls := [some (.ref a0, 3)]) (j := 0) (by decide +kernel) rfl rfl (zEn_ca rfl) (Nat.le_of_ble_eq_true rfl) rfl ?_
  unfold gX3_init
  refine zr_aload_n (r := (some a0)) (eX3_init 0 rfl) rfl rfl ?_
  refine zr_objI ⟨zw_760, zw_80, zw_81⟩ ⟨Nat.le_of_ble_eq_true rfl, Nat.le_of_ble_eq_true rfl⟩ (Nat.le_of_ble_eq_true rfl) (eX3_init 1 rfl) ?_
  refine zr_aload_n (r := (some a0)) (eX3_init 2 rfl) rfl rfl ?_
  refine zr_bipush (eX3_init 3 rfl) zk_bipush_60 ?_
  refine zr_newi zw_154 (eX3_init 4 rfl) ?_
  refine zr_leta (fun a21 => ?_)
  refine v_leth (fun h1 => ?_)
  refine zr_putR (x := (some a21)) zf_RX3_9 (by decide) (fun _ h => h) (Or.inr ⟨rfl, rfl⟩) (eX3_init 5 rfl) ?_
  refine v_leth (fun h2 => ?_)
  refine zr_aload_n (r := (some a0)) (eX3_init 6 rfl) rfl rfl ?_
  refine zr_bipush (eX3_init 7 rfl) zk_bipush_60 ?_
  refine zr_newi zw_154 (eX3_init 8 rfl) ?_
  refine zr_leta (fun a22 => ?_)
  refine v_leth (fun h3 => ?_)
  refine zr_putR (x := (some a22)) zf_RX3_15 (by decide) (fun _ h => h) (Or.inr ⟨rfl, rfl⟩) (eX3_init 9 rfl) ?_
  refine v_leth (fun h4 => ?_)
  refine zr_aload_n (r := (some a0)) (eX3_init 10 rfl) rfl rfl ?_
  refine zr_bipush (eX3_init 11 rfl) zk_bipush_60 ?_
  refine zr_newi zw_154 (eX3_init 12 rfl) ?_
  refine zr_leta (fun a23 => ?_)
  refine v_leth (fun h5 => ?_)
  refine zr_putR (x := (some a23)) zf_RX3_18 (by decide) (fun _ h => h) (Or.inr ⟨rfl, rfl⟩) (eX3_init 13 rfl) ?_
  refine v_leth (fun h6 => ?_)
  refine zr_aload_n (r := (some a0)) (eX3_init 14 rfl) rfl rfl ?_
  refine zr_sipush (eX3_init 15 rfl) zk_sipush_257 ?_
  refine zr_newi zw_154 (eX3_init 16 rfl) ?_
  refine zr_leta (fun a24 => ?_)
  refine v_leth (fun h7 => ?_)
  refine zr_putR (x := (some a24)) zf_RX3_21 (by decide) (fun _ h => h) (Or.inr ⟨rfl, rfl⟩) (eX3_init 17 rfl) ?_
  refine v_leth (fun h8 => ?_)
  refine zr_aload_n (r := (some a0)) (eX3_init 18 rfl) rfl rfl ?_
  refine zr_bipush (eX3_init 19 rfl) zk_bipush_64 ?_
  refine zr_newi zw_154 (eX3_init 20 rfl) ?_
  refine zr_leta (fun a25 => ?_)
  refine v_leth (fun h9 => ?_)
  refine zr_putR (x := (some a25)) zf_RX3_24 (by decide) (fun _ h => h) (Or.inl rfl) (eX3_init 21 rfl) ?_
  refine v_leth (fun h10 => ?_)
  refine zr_aload_n (r := (some a0)) (eX3_init 22 rfl) rfl rfl ?_
  refine zr_bipush (eX3_init 23 rfl) zk_bipush_64 ?_
  refine zr_newi zw_154 (eX3_init 24 rfl) ?_
  refine zr_leta (fun a26 => ?_)
  refine v_leth (fun h11 => ?_)
  refine zr_putR (x := (some a26)) zf_RX3_27 (by decide) (fun _ h => h) (Or.inl rfl) (eX3_init 25 rfl) ?_
  refine v_leth (fun h12 => ?_)
  refine zr_aload_n (r := (some a0)) (eX3_init 26 rfl) rfl rfl ?_
  refine zr_iconst (eX3_init 27 rfl) zk_iconst_0 ?_
  refine zr_putI zf_RX3_30 rfl (Or.inl rfl) (eX3_init 28 rfl) ?_
  refine v_leth (fun h13 => ?_)
  refine zr_aload_n (r := (some a0)) (eX3_init 29 rfl) rfl rfl ?_
  refine zr_iconst (eX3_init 30 rfl) zk_iconst_0 ?_
  refine zr_putZ zf_RX3_34 rfl (by decide) (Or.inl rfl) (eX3_init 31 rfl) ?_
  refine v_leth (fun h14 => ?_)
  refine zr_aload_n (r := (some a0)) (eX3_init 32 rfl) rfl rfl ?_
  refine zr_lconst (eX3_init 33 rfl) zk_lconst_0 ?_
  refine zr_putJ zf_RX3_38 rfl (Or.inl rfl) (eX3_init 34 rfl) ?_
  refine v_leth (fun h15 => ?_)
  refine zr_aload_n (r := (some a0)) (eX3_init 35 rfl) rfl rfl ?_
  refine zr_lconst (eX3_init 36 rfl) zk_lconst_0 ?_
  refine zr_putJ zf_RX3_42 rfl (Or.inl rfl) (eX3_init 37 rfl) ?_
  refine v_leth (fun h16 => ?_)
  exact zr_vret rfl rfl (eX3_init 38 rfl)
def gX3_begin (h : Zh) (a0 : Nat) : Option (Zh) :=
  zlt (zsI h a0 6 0) (fun (h1 : Zh) => zlt (zsI h1 a0 7 0) (fun (h2 : Zh) => some h2))
set_option maxRecDepth 20000 in
theorem cX3_begin_ok (l : Launch) (h : Zh) (a0 : Nat) : Zc l yX3_begin mX3_begin 0 h [(.ref a0, 3)] ((gX3_begin h a0).map zoV) := by
  refine zc_of2 (ls := [some (.ref a0, 3)]) (j := 0) (by decide +kernel) rfl rfl (zEn_ca rfl) (Nat.le_of_ble_eq_true rfl) rfl ?_
  unfold gX3_begin
  refine zr_aload_n (r := (some a0)) (eX3_begin 0 rfl) rfl rfl ?_
  refine zr_iconst (eX3_begin 1 rfl) zk_iconst_0 ?_
  refine zr_putI zf_RX3_30 rfl (Or.inl rfl) (eX3_begin 2 rfl) ?_
  refine v_leth (fun h1 => ?_)
  refine zr_aload_n (r := (some a0)) (eX3_begin 3 rfl) rfl rfl ?_
  refine zr_iconst (eX3_begin 4 rfl) zk_iconst_0 ?_
  refine zr_putZ zf_RX3_34 rfl (by decide) (Or.inl rfl) (eX3_begin 5 rfl) ?_
  refine v_leth (fun h2 => ?_)
  exact zr_vret rfl rfl (eX3_begin 6 rfl)
def gX3_emit_J1 (a0 : Nat) (h2 : Zh) : Int32 → Option (Zh) :=
  fun (x21 : Int32) => zg (zbl x21) (zlt (zsI h2 a0 7 x21) (fun (h3 : Zh) => some h3))
def gX3_emit_J2 (k22 : Int32 → Option (Zh)) : Option (Zh) :=
  k22 1
def gX3_emit_J3 (a0 : Nat) (x2 : Int64) (x4 : Int64) : Zh → Option (Zh) :=
  fun (h1 : Zh) => zlt (zsI h1 a0 6 ((zI h1 a0 6) + 1)) (fun (h2 : Zh) => zjn (gX3_emit_J1 a0 h2) (fun (k22 : Int32 → Option (Zh)) =>
  zjn (gX3_emit_J2 k22) (fun (k23 : Option (Zh)) =>
  (if ((zI h2 a0 7) : Int32) = 0 then zbj (gJ9_abs_067f4 x2) (fun x24 => (if (0 : Int32) < (lg_cmp x24 1000000) then k23
  else zbj (gJ9_abs_067f4 x4) (fun x25 => (if ((lg_cmp x25 1000000) : Int32) ≤ 0 then k22 0
  else k23))))
  else k23))))
def gX3_emit_J4 (h : Zh) (a0 : Nat) (x1 : Int32) (x2 : Int64) (x4 : Int64) : Option (Zh) :=
  zjn (gX3_emit_J3 a0 x2 x4) (fun (k26 : Zh → Option (Zh)) =>
  (if (60 : Int32) ≤ (zI h a0 6) then k26 h
  else zlt (zR h a0 0) (fun r27 => Option.bind r27 (fun a28 => zg (zin (zI h a0 6) (zL h a28)) (zlt (zsI h a28 (zx (zI h a0 6)) x1) (fun (h4 : Zh) => zlt (zR h4 a0 1) (fun r29 => Option.bind r29 (fun a30 => zg (zin (zI h4 a0 6) (zL h4 a30)) (zlt (zsI h4 a30 (zx (zI h4 a0 6)) ((x2 : Int64).toInt32)) (fun (h5 : Zh) => zlt (zR h5 a0 2) (fun r31 => Option.bind r31 (fun a32 => zg (zin (zI h5 a0 6) (zL h5 a32)) (zlt (zsI h5 a32 (zx (zI h5 a0 6)) ((x4 : Int64).toInt32)) (fun (h6 : Zh) => k26 h6))))))))))))))
def gX3_emit (h : Zh) (a0 : Nat) (x1 : Int32) (x2 : Int64) (x4 : Int64) : Option (Zh) :=
  zjn (gX3_emit_J4 h a0 x1 x2 x4) (fun (k33 : Option (Zh)) =>
  (if ((lg_cmp x2 0) : Int32) = 0 then (if ((lg_cmp x4 0) : Int32) = 0 then some h
  else k33)
  else k33))
set_option maxRecDepth 20000 in
theorem cX3_emit_ok (l : Launch) (h : Zh) (a0 : Nat) (x1 : Int32) (x2 : Int64) (x4 : Int64) : Zc l yX3_emit mX3_emit 0 h [(.ref a0, 3), (.int x1, 0), (.long x2, 0), (.long x4, 0)] ((gX3_emit h a0 x1 x2 x4).map zoV) := by
  refine zc_of2 (ls := [some (.ref a0, 3), some (.int x1, 0), some (.long x2, 0), none, some (.long x4, 0), none]) (j := 0) (by decide +kernel) rfl rfl (zEn_ca (zEn_ci (zEn_cj (zEn_cj rfl)))) (Nat.le_of_ble_eq_true rfl) rfl ?_
  unfold gX3_emit
  refine zr_lload_n (eX3_emit 0 rfl) rfl rfl ?_
  refine zr_lconst (eX3_emit 1 rfl) zk_lconst_0 ?_
  refine zr_lcmp (eX3_emit 2 rfl) ?_
  refine v_jn (fun (k33 : Option (Zh)) => V l mX3_emit (zN h) (zS h) 0 zoV 14 [some (.ref a0, 3), some (.int x1, 0), some (.long x2, 0), none, some (.long x4, 0), none] [] h k33) ?_ ?_
  · skip
    unfold gX3_emit_J4
    refine zr_aload_n (r := (some a0)) (eX3_emit 9 rfl) rfl rfl ?_
    refine zr_getI zf_RX3_30 ⟨by decide, by decide⟩ (eX3_emit 10 rfl) ?_
    refine zr_bipush (eX3_emit 11 rfl) zk_bipush_60 ?_
    refine v_jn (fun (k26 : Zh → Option (Zh)) => ∀ (h1 : Zh), V l mX3_emit (zN h) (zS h) 0 zoV 56 [some (.ref a0, 3), none, some (.long x2, 0), none, some (.long x4, 0), none] [] h1 (k26 h1)) ?_ ?_
    · intro h1
      unfold gX3_emit_J3
      refine zr_aload_n (r := (some a0)) (eX3_emit 33 rfl) rfl rfl ?_
      refine zr_dup (eX3_emit 34 rfl) rfl ?_
      refine zr_getI zf_RX3_30 ⟨by decide, by decide⟩ (eX3_emit 35 rfl) ?_
      refine zr_iconst (eX3_emit 36 rfl) zk_iconst_1 ?_
      refine zr_iadd (eX3_emit 37 rfl) ?_
      refine zr_putI zf_RX3_30 rfl (Or.inl rfl) (eX3_emit 38 rfl) ?_
      refine v_leth (fun h2 => ?_)
      refine zr_aload_n (r := (some a0)) (eX3_emit 39 rfl) rfl rfl ?_
      refine zr_aload_n (r := (some a0)) (eX3_emit 40 rfl) rfl rfl ?_
      refine zr_getI zf_RX3_34 ⟨by decide, by decide⟩ (eX3_emit 41 rfl) ?_
      refine v_jn (fun (k22 : Int32 → Option (Zh)) => ∀ (x21 : Int32), V l mX3_emit (zN h) (zS h) 0 zoV 102 [none, none, none, none, none, none] [(.int x21, 0), (.ref a0, 3)] h2 (k22 x21)) ?_ ?_
      · intro x21
        unfold gX3_emit_J1
        refine v_g (fun hb => ?_)
        refine zr_putZ zf_RX3_34 rfl (zbl_of hb) (Or.inl rfl) (eX3_emit 56 rfl) ?_
        refine v_leth (fun h3 => ?_)
        exact zr_vret rfl rfl (eX3_emit 57 rfl)
      intro k22 hk22
      refine v_jn (fun (k23 : Option (Zh)) => V l mX3_emit (zN h) (zS h) 0 zoV 97 [none, none, none, none, none, none] [(.ref a0, 3)] h2 k23) ?_ ?_
      · skip
        unfold gX3_emit_J2
        refine zr_iconst (eX3_emit 53 rfl) zk_iconst_1 ?_
        refine zr_goto (eX3_emit 54 rfl) (t := 102) (by decide) ?_
        exact v_drop [false, false, false, false, false, false] rfl (hk22 1)
      intro k23 hk23
      refine zr_if_ne (eX3_emit 42 rfl) (t := 97) (by decide) ?_ ?_
      · exact v_drop [false, false, false, false, false, false] rfl (hk23)
      · refine zr_lload_n (eX3_emit 43 rfl) rfl rfl ?_
        refine zr_invS_j (as := [(.long x2, 0)]) (cJ9_abs_067f4_ok l h2 x2) rfl zcd_J9_abs_067f4 ⟨zw_816, zw_500, zw_67⟩ ⟨Nat.le_of_ble_eq_true rfl, Nat.le_of_ble_eq_true rfl⟩ rfl (Nat.le_of_ble_eq_true rfl) (eX3_emit 44 rfl) (fun x24 => ?_)
        refine zr_ldc2 (eX3_emit 45 rfl) zw_817 ?_
        refine zr_lcmp (eX3_emit 46 rfl) ?_
        refine zr_if_gt (eX3_emit 47 rfl) (t := 97) (by decide) ?_ ?_
        · exact v_drop [false, false, false, false, false, false] rfl (hk23)
        · refine zr_lload (eX3_emit 48 rfl) rfl ?_
          refine zr_invS_j (as := [(.long x4, 0)]) (cJ9_abs_067f4_ok l h2 x4) rfl zcd_J9_abs_067f4 ⟨zw_816, zw_500, zw_67⟩ ⟨Nat.le_of_ble_eq_true rfl, Nat.le_of_ble_eq_true rfl⟩ rfl (Nat.le_of_ble_eq_true rfl) (eX3_emit 49 rfl) (fun x25 => ?_)
          refine zr_ldc2 (eX3_emit 50 rfl) zw_817 ?_
          refine zr_lcmp (eX3_emit 51 rfl) ?_
          refine zr_if_le (eX3_emit 52 rfl) (t := 101) (by decide) ?_ ?_
          · refine zr_iconst (eX3_emit 55 rfl) zk_iconst_0 ?_
            exact v_drop [false, false, false, false, false, false] rfl (hk22 0)
          · exact v_drop [false, false, false, false, false, false] rfl (hk23)
    intro k26 hk26
    refine zr_icmp_ge (eX3_emit 12 rfl) (t := 56) (by decide) ?_ ?_
    · exact v_drop [true, false, true, false, true, false] rfl (hk26 h)
    · refine zr_aload_n (r := (some a0)) (eX3_emit 13 rfl) rfl rfl ?_
      refine zr_getR2 zf_RX3_9 (τ2 := 20) rfl (eX3_emit 14 rfl) ?_
      refine v_letr (fun r27 => ?_)
      refine zr_aload_n (r := (some a0)) (eX3_emit 15 rfl) rfl rfl ?_
      refine zr_getI zf_RX3_30 ⟨by decide, by decide⟩ (eX3_emit 16 rfl) ?_
      refine zr_iload_n (eX3_emit 17 rfl) rfl rfl ?_
      refine v_nn (fun a28 ea28 => ?_)
      subst ea28
      refine zr_iast (eX3_emit 18 rfl) ?_
      refine v_leth (fun h4 => ?_)
      refine zr_aload_n (r := (some a0)) (eX3_emit 19 rfl) rfl rfl ?_
      refine zr_getR2 zf_RX3_15 (τ2 := 20) rfl (eX3_emit 20 rfl) ?_
      refine v_letr (fun r29 => ?_)
      refine zr_aload_n (r := (some a0)) (eX3_emit 21 rfl) rfl rfl ?_
      refine zr_getI zf_RX3_30 ⟨by decide, by decide⟩ (eX3_emit 22 rfl) ?_
      refine zr_lload_n (eX3_emit 23 rfl) rfl rfl ?_
      refine zr_l2i (eX3_emit 24 rfl) ?_
      refine v_nn (fun a30 ea30 => ?_)
      subst ea30
      refine zr_iast (eX3_emit 25 rfl) ?_
      refine v_leth (fun h5 => ?_)
      refine zr_aload_n (r := (some a0)) (eX3_emit 26 rfl) rfl rfl ?_
      refine zr_getR2 zf_RX3_18 (τ2 := 20) rfl (eX3_emit 27 rfl) ?_
      refine v_letr (fun r31 => ?_)
      refine zr_aload_n (r := (some a0)) (eX3_emit 28 rfl) rfl rfl ?_
      refine zr_getI zf_RX3_30 ⟨by decide, by decide⟩ (eX3_emit 29 rfl) ?_
      refine zr_lload (eX3_emit 30 rfl) rfl ?_
      refine zr_l2i (eX3_emit 31 rfl) ?_
      refine v_nn (fun a32 ea32 => ?_)
      subst ea32
      refine zr_iast (eX3_emit 32 rfl) ?_
      refine v_leth (fun h6 => ?_)
      exact v_drop [true, false, true, false, true, false] rfl (hk26 h6)
  intro k33 hk33
  refine zr_if_ne (eX3_emit 3 rfl) (t := 14) (by decide) ?_ ?_
  · exact v_drop [true, true, true, false, true, false] rfl (hk33)
  · refine zr_lload (eX3_emit 4 rfl) rfl ?_
    refine zr_lconst (eX3_emit 5 rfl) zk_lconst_0 ?_
    refine zr_lcmp (eX3_emit 6 rfl) ?_
    refine zr_if_ne (eX3_emit 7 rfl) (t := 14) (by decide) ?_ ?_
    · exact v_drop [true, true, true, false, true, false] rfl (hk33)
    · exact zr_vret rfl rfl (eX3_emit 8 rfl)
def gX3_fits_J1 : Option (Int32) :=
  (some 0)
def gX3_fits (h : Zh) (a0 : Nat) : Option (Int32) :=
  zjn gX3_fits_J1 (fun (k21 : Option (Int32)) =>
  (if (60 : Int32) < (zI h a0 6) then k21
  else (if ((zI h a0 7) : Int32) = 0 then (some 1)
  else k21)))
set_option maxRecDepth 20000 in
theorem cX3_fits_ok (l : Launch) (h : Zh) (a0 : Nat) : Zc l yX3_fits mX3_fits 0 h [(.ref a0, 3)] ((gX3_fits h a0).map (zoi h)) := by
  refine zc_of2 (ls := [some (.ref a0, 3)]) (j := 0) (by decide +kernel) rfl rfl (zEn_ca rfl) (Nat.le_of_ble_eq_true rfl) rfl ?_
  unfold gX3_fits
  refine zr_aload_n (r := (some a0)) (eX3_fits 0 rfl) rfl rfl ?_
  refine zr_getI zf_RX3_30 ⟨by decide, by decide⟩ (eX3_fits 1 rfl) ?_
  refine zr_bipush (eX3_fits 2 rfl) zk_bipush_60 ?_
  refine v_jn (fun (k21 : Option (Int32)) => V l mX3_fits (zN h) (zS h) 0 (zoi h) 20 [none] [] h k21) ?_ ?_
  · skip
    unfold gX3_fits_J1
    refine zr_iconst (eX3_fits 9 rfl) zk_iconst_0 ?_
    exact zr_zret rfl (by decide) rfl (eX3_fits 10 rfl)
  intro k21 hk21
  refine zr_icmp_gt (eX3_fits 3 rfl) (t := 20) (by decide) ?_ ?_
  · exact v_drop [false] rfl (hk21)
  · refine zr_aload_n (r := (some a0)) (eX3_fits 4 rfl) rfl rfl ?_
    refine zr_getI zf_RX3_34 ⟨by decide, by decide⟩ (eX3_fits 5 rfl) ?_
    refine zr_if_ne (eX3_fits 6 rfl) (t := 20) (by decide) ?_ ?_
    · exact v_drop [false] rfl (hk21)
    · refine zr_iconst (eX3_fits 7 rfl) zk_iconst_1 ?_
      refine zr_goto (eX3_fits 8 rfl) (t := 21) (by decide) ?_
      exact zr_zret rfl (by decide) rfl (eX3_fits 10 rfl)
def gX3_result (h : Zh) (a0 : Nat) : Option (Option Nat × Zh) :=
  zbi (gJ9_min_7cf53 (zI h a0 6) 60) (fun x21 => zlt (zN h) (fun a22 => zlt (zA h 8 3) (fun (h1 : Zh) => zlt (zR h1 a0 0) (fun r23 => zbR (gJ7_copyOf_59c91 h1 r23 x21) (fun r24 h2 => zlt (zR h2 a0 1) (fun r25 => zbR (gJ7_copyOf_59c91 h2 r25 x21) (fun r26 h3 => zlt (zR h3 a0 2) (fun r27 => zbR (gJ7_copyOf_59c91 h3 r27 x21) (fun r28 h4 => zbV (gX8_init h4 a22 r24 r26 r28) (fun h5 => (some ((some a22), h5))))))))))))
set_option maxRecDepth 20000 in
theorem cX3_result_ok (l : Launch) (h : Zh) (a0 : Nat) : Zc l yX3_result mX3_result 8 h [(.ref a0, 3)] ((gX3_result h a0).map zoR) := by
  refine zc_of2 (ls := [some (.ref a0, 3), none]) (j := 1) (by decide +kernel) rfl rfl (zEn_ca rfl) (Nat.le_of_ble_eq_true rfl) rfl ?_
  unfold gX3_result
  refine zr_aload_n (r := (some a0)) (eX3_result 0 rfl) rfl rfl ?_
  refine zr_getI zf_RX3_30 ⟨by decide, by decide⟩ (eX3_result 1 rfl) ?_
  refine zr_bipush (eX3_result 2 rfl) zk_bipush_60 ?_
  refine zr_invS_i (as := [(.int (zI h a0 6), 0), (.int 60, 0)]) (cJ9_min_7cf53_ok l h (zI h a0 6) 60) rfl zcd_J9_min_7cf53 ⟨zw_830, zw_831, zw_67⟩ ⟨Nat.le_of_ble_eq_true rfl, Nat.le_of_ble_eq_true rfl⟩ rfl (Nat.le_of_ble_eq_true rfl) (eX3_result 3 rfl) (fun x21 => ?_)
  refine zr_istore_n (ls2 := [some (.ref a0, 3), some (.int x21, 0)]) (eX3_result 4 rfl) rfl (Nat.le_of_ble_eq_true rfl) rfl ?_
  refine zr_new zci8 zw_833 zw_133 zw_60 (eX3_result 5 rfl) ?_
  refine zr_leta (fun a22 => ?_)
  refine v_leth (fun h1 => ?_)
  refine zr_dup (eX3_result 6 rfl) rfl ?_
  refine zr_aload_n (r := (some a0)) (eX3_result 7 rfl) rfl rfl ?_
  refine zr_getR2 zf_RX3_9 (τ2 := 20) rfl (eX3_result 8 rfl) ?_
  refine v_letr (fun r23 => ?_)
  refine zr_iload_n (eX3_result 9 rfl) rfl rfl ?_
  refine zr_invS_R (as := [(va_rf r23, 20), (.int x21, 0)]) (cJ7_copyOf_59c91_ok l h1 r23 x21) rfl zcd_J7_copyOf_59c91 ⟨zw_834, zw_835, zw_65⟩ ⟨Nat.le_of_ble_eq_true rfl, Nat.le_of_ble_eq_true rfl⟩ rfl (Nat.le_of_ble_eq_true rfl) (eX3_result 10 rfl) (fun r24 h2 => ?_)
  refine zr_aload_n (r := (some a0)) (eX3_result 11 rfl) rfl rfl ?_
  refine zr_getR2 zf_RX3_15 (τ2 := 20) rfl (eX3_result 12 rfl) ?_
  refine v_letr (fun r25 => ?_)
  refine zr_iload_n (eX3_result 13 rfl) rfl rfl ?_
  refine zr_invS_R (as := [(va_rf r25, 20), (.int x21, 0)]) (cJ7_copyOf_59c91_ok l h2 r25 x21) rfl zcd_J7_copyOf_59c91 ⟨zw_834, zw_835, zw_65⟩ ⟨Nat.le_of_ble_eq_true rfl, Nat.le_of_ble_eq_true rfl⟩ rfl (Nat.le_of_ble_eq_true rfl) (eX3_result 14 rfl) (fun r26 h3 => ?_)
  refine zr_aload_n (r := (some a0)) (eX3_result 15 rfl) rfl rfl ?_
  refine zr_getR2 zf_RX3_18 (τ2 := 20) rfl (eX3_result 16 rfl) ?_
  refine v_letr (fun r27 => ?_)
  refine zr_iload_n (eX3_result 17 rfl) rfl rfl ?_
  refine zr_invS_R (as := [(va_rf r27, 20), (.int x21, 0)]) (cJ7_copyOf_59c91_ok l h3 r27 x21) rfl zcd_J7_copyOf_59c91 ⟨zw_834, zw_835, zw_65⟩ ⟨Nat.le_of_ble_eq_true rfl, Nat.le_of_ble_eq_true rfl⟩ rfl (Nat.le_of_ble_eq_true rfl) (eX3_result 18 rfl) (fun r28 h4 => ?_)
  refine zr_invI_V (as := [(va_rf r24, 20), (va_rf r26, 20), (va_rf r28, 20)]) (cX8_init_ok l h4 a22 r24 r26 r28) rfl zcd_X8_init rfl rfl ⟨zw_846, zw_135, zw_60⟩ ⟨Nat.le_of_ble_eq_true rfl, Nat.le_of_ble_eq_true rfl⟩ rfl (Nat.le_of_ble_eq_true rfl) (eX3_result 19 rfl) (fun h5 => ?_)
  exact zr_aret (r := (some a22)) rfl rfl (Or.inl ⟨_, rfl⟩) (eX3_result 20 rfl)
def gX8_count (h : Zh) (a0 : Nat) : Option (Int32) :=
  zlt (zR h a0 0) (fun r21 => Option.bind r21 (fun a22 => (some (Int32.ofNat (zL h a22)))))
set_option maxRecDepth 20000 in
theorem cX8_count_ok (l : Launch) (h : Zh) (a0 : Nat) : Zc l yX8_count mX8_count 0 h [(.ref a0, 8)] ((gX8_count h a0).map (zoi h)) := by
  refine zc_of2 (ls := [some (.ref a0, 8)]) (j := 0) (by decide +kernel) rfl rfl (zEn_ca rfl) (Nat.le_of_ble_eq_true rfl) rfl ?_
  unfold gX8_count
  refine zr_aload_n (r := (some a0)) (eX8_count 0 rfl) rfl rfl ?_
  refine zr_getR2 zf_RX8_7 (τ2 := 20) rfl (eX8_count 1 rfl) ?_
  refine v_letr (fun r21 => ?_)
  refine v_nn (fun a22 ea22 => ?_)
  subst ea22
  refine zr_alen (by decide) (eX8_count 2 rfl) ?_
  exact zr_iret rfl rfl (eX8_count 3 rfl)
def gX3_merge_J1 (a0 : Nat) (x28 : Int32) (k29 : Int32 → Int32 → Int32 → Zh → Option (Zh)) (x34 : Int32) (x35 : Int32) : Int32 → Zh → Option (Zh) :=
  fun (x36 : Int32) (h6 : Zh) => zbV (gX3_emit h6 a0 x34 (zJ h6 a0 8) (zJ h6 a0 9)) (fun h7 => k29 x35 x36 (x28 + 1) h7)
def gX3_merge_J2 (a0 : Nat) (x3 : Int64) (a23 : Nat) (x27 : Int32) (x28 : Int32) (k29 : Int32 → Int32 → Int32 → Zh → Option (Zh)) (x33 : Int32) (x34 : Int32) : Int32 → Zh → Option (Zh) :=
  fun (x35 : Int32) (h5 : Zh) => zjn (gX3_merge_J1 a0 x28 k29 x34 x35) (fun (k37 : Int32 → Zh → Option (Zh)) =>
  (if (x33 : Int32) = 0 then k37 x27 h5
  else zlt (zR h5 a23 1) (fun r38 => Option.bind r38 (fun a39 => zg (zin x27 (zL h5 a39)) (zlt (zsJ h5 a0 8 ((zJ h5 a0 8) + (x3 * (((zI h5 a39 (zx x27)) : Int32).toInt64)))) (fun (h8 : Zh) => zlt (zR h8 a23 2) (fun r40 => Option.bind r40 (fun a41 => zg (zin x27 (zL h8 a41)) (zlt (zsJ h8 a0 9 ((zJ h8 a0 9) + (x3 * (((zI h8 a41 (zx x27)) : Int32).toInt64)))) (fun (h9 : Zh) => k37 (x27 + 1) h9))))))))))
def gX3_merge_J3 (a0 : Nat) (x3 : Int64) (a21 : Nat) (a23 : Nat) (x26 : Int32) (x27 : Int32) (x28 : Int32) (h2 : Zh) (k29 : Int32 → Int32 → Int32 → Zh → Option (Zh)) (x31 : Int32) (x33 : Int32) : Int32 → Option (Zh) :=
  fun (x34 : Int32) => zlt (zsJ h2 a0 8 0) (fun (h3 : Zh) => zlt (zsJ h3 a0 9 0) (fun (h4 : Zh) => zjn (gX3_merge_J2 a0 x3 a23 x27 x28 k29 x33 x34) (fun (k42 : Int32 → Zh → Option (Zh)) =>
  (if (x31 : Int32) = 0 then k42 x26 h4
  else zlt (zR h4 a21 1) (fun r43 => Option.bind r43 (fun a44 => zg (zin x26 (zL h4 a44)) (zlt (zsJ h4 a0 8 ((zJ h4 a0 8) + (((zI h4 a44 (zx x26)) : Int32).toInt64))) (fun (h10 : Zh) => zlt (zR h10 a21 2) (fun r45 => Option.bind r45 (fun a46 => zg (zin x26 (zL h10 a46)) (zlt (zsJ h10 a0 9 ((zJ h10 a0 9) + (((zI h10 a46 (zx x26)) : Int32).toInt64))) (fun (h11 : Zh) => k42 (x26 + 1) h11))))))))))))
def gX3_merge_J4 (a0 : Nat) (x3 : Int64) (a21 : Nat) (a23 : Nat) (x26 : Int32) (x27 : Int32) (x28 : Int32) (h2 : Zh) (k29 : Int32 → Int32 → Int32 → Zh → Option (Zh)) (x31 : Int32) : Int32 → Option (Zh) :=
  fun (x33 : Int32) => zjn (gX3_merge_J3 a0 x3 a21 a23 x26 x27 x28 h2 k29 x31 x33) (fun (k47 : Int32 → Option (Zh)) =>
  (if (x31 : Int32) = 0 then zlt (zR h2 a23 0) (fun r48 => Option.bind r48 (fun a49 => zg (zin x27 (zL h2 a49)) (k47 (zI h2 a49 (zx x27)))))
  else zlt (zR h2 a21 0) (fun r50 => Option.bind r50 (fun a51 => zg (zin x26 (zL h2 a51)) (k47 (zI h2 a51 (zx x26)))))))
def gX3_merge_J5 (k52 : Int32 → Option (Zh)) : Option (Zh) :=
  k52 1
def gX3_merge_J6 (k52 : Int32 → Option (Zh)) : Option (Zh) :=
  k52 0
def gX3_merge_J7 (a0 : Nat) (x3 : Int64) (a21 : Nat) (a23 : Nat) (x26 : Int32) (x27 : Int32) (x28 : Int32) (h2 : Zh) (k29 : Int32 → Int32 → Int32 → Zh → Option (Zh)) : Int32 → Option (Zh) :=
  fun (x31 : Int32) => zbi (gX8_count h2 a21) (fun x32 => zjn (gX3_merge_J4 a0 x3 a21 a23 x26 x27 x28 h2 k29 x31) (fun (k52 : Int32 → Option (Zh)) =>
  zjn (gX3_merge_J5 k52) (fun (k53 : Option (Zh)) =>
  (if (x32 : Int32) ≤ x26 then k53
  else zbi (gX8_count h2 a23) (fun x54 => zjn (gX3_merge_J6 k52) (fun (k55 : Option (Zh)) =>
  (if (x54 : Int32) ≤ x27 then k55
  else zlt (zR h2 a23 0) (fun r56 => Option.bind r56 (fun a57 => zg (zin x27 (zL h2 a57)) (zlt (zR h2 a21 0) (fun r58 => Option.bind r58 (fun a59 => zg (zin x26 (zL h2 a59)) ((if ((zI h2 a59 (zx x26)) : Int32) < (zI h2 a57 (zx x27)) then k55
  else k53))))))))))))))
def gX3_merge_J8 (k60 : Int32 → Option (Zh)) : Option (Zh) :=
  k60 1
def gX3_merge_J9 (k60 : Int32 → Option (Zh)) : Option (Zh) :=
  k60 0
def gX3_merge_L10 (a0 : Nat) (x3 : Int64) (a21 : Nat) (a23 : Nat) (x25 : Int32) : (Int32 → Int32 → Int32 → Zh → Option (Zh)) → Int32 → Int32 → Int32 → Zh → Option (Zh) :=
  fun (k29 : Int32 → Int32 → Int32 → Zh → Option (Zh)) (x26 : Int32) (x27 : Int32) (x28 : Int32) (h2 : Zh) => (if (x25 : Int32) ≤ x28 then some h2
  else (if (x25 : Int32) ≤ (x26 + x27) then some h2
  else zbi (gX8_count h2 a23) (fun x30 => zjn (gX3_merge_J7 a0 x3 a21 a23 x26 x27 x28 h2 k29) (fun (k60 : Int32 → Option (Zh)) =>
  zjn (gX3_merge_J8 k60) (fun (k61 : Option (Zh)) =>
  (if (x30 : Int32) ≤ x27 then k61
  else zbi (gX8_count h2 a21) (fun x62 => zjn (gX3_merge_J9 k60) (fun (k63 : Option (Zh)) =>
  (if (x62 : Int32) ≤ x26 then k63
  else zlt (zR h2 a21 0) (fun r64 => Option.bind r64 (fun a65 => zg (zin x26 (zL h2 a65)) (zlt (zR h2 a23 0) (fun r66 => Option.bind r66 (fun a67 => zg (zin x27 (zL h2 a67)) ((if ((zI h2 a67 (zx x27)) : Int32) < (zI h2 a65 (zx x26)) then k63
  else k61))))))))))))))))
def gX3_merge (h : Zh) (a0 : Nat) (r1 : Option Nat) (r2 : Option Nat) (x3 : Int64) : Option (Zh) :=
  zbV (gX3_begin h a0) (fun h1 => Option.bind r1 (fun a21 => zbi (gX8_count h1 a21) (fun x22 => Option.bind r2 (fun a23 => zbi (gX8_count h1 a23) (fun x24 => zlt (x22 + x24) (fun x25 => zlp (fun (_ : Int32) (_ : Int32) (_ : Int32) (_ : Zh) => (none : Option (Zh))) (gX3_merge_L10 a0 x3 a21 a23 x25) zFU 0 0 0 h1))))))
set_option maxRecDepth 20000 in
theorem cX3_merge_ok (l : Launch) (h : Zh) (a0 : Nat) (r1 : Option Nat) (r2 : Option Nat) (x3 : Int64) : Zc l yX3_merge mX3_merge 0 h [(.ref a0, 3), (va_rf r1, 8), (va_rf r2, 8), (.long x3, 0)] ((gX3_merge h a0 r1 r2 x3).map zoV) := by
  refine zc_of2 (ls := [some (.ref a0, 3), some (va_rf r1, 8), some (va_rf r2, 8), some (.long x3, 0), none, none, none, none, none, none, none, none]) (j := 7) (by decide +kernel) rfl rfl (zEn_ca (zEn_cr (zEn_cr (zEn_cj rfl)))) (Nat.le_of_ble_eq_true rfl) rfl ?_
  unfold gX3_merge
  refine zr_aload_n (r := (some a0)) (eX3_merge 0 rfl) rfl rfl ?_
  refine zr_invV_V (as := []) (cX3_begin_ok l h a0) rfl rfl ⟨by decide, by decide, by decide⟩ zcd_X3_begin rfl ⟨zw_804, zw_805, zw_806, zw_72⟩ ⟨Nat.le_of_ble_eq_true rfl, Nat.le_of_ble_eq_true rfl⟩ rfl (Nat.le_of_ble_eq_true rfl) (eX3_merge 1 rfl) (fun h1 => ?_)
  refine zr_iconst (eX3_merge 2 rfl) zk_iconst_0 ?_
  refine zr_istore (ls2 := [some (.ref a0, 3), some (va_rf r1, 8), some (va_rf r2, 8), some (.long x3, 0), none, some (.int 0, 0), none, none, none, none, none, none]) (eX3_merge 3 rfl) (Nat.le_of_ble_eq_true rfl) rfl ?_
  refine zr_iconst (eX3_merge 4 rfl) zk_iconst_0 ?_
  refine zr_istore (ls2 := [some (.ref a0, 3), some (va_rf r1, 8), some (va_rf r2, 8), some (.long x3, 0), none, some (.int 0, 0), some (.int 0, 0), none, none, none, none, none]) (eX3_merge 5 rfl) (Nat.le_of_ble_eq_true rfl) rfl ?_
  refine zr_aload_n (r := r1) (eX3_merge 6 rfl) rfl rfl ?_
  refine v_nn (fun a21 ea21 => ?_)
  subst ea21
  refine zr_invV_i (as := []) (cX8_count_ok l h1 a21) rfl rfl ⟨by decide, by decide, by decide⟩ zcd_X8_count rfl ⟨zw_808, zw_809, zw_810, zw_60⟩ ⟨Nat.le_of_ble_eq_true rfl, Nat.le_of_ble_eq_true rfl⟩ rfl (Nat.le_of_ble_eq_true rfl) (eX3_merge 7 rfl) (fun x22 => ?_)
  refine zr_aload_n (r := r2) (eX3_merge 8 rfl) rfl rfl ?_
  refine v_nn (fun a23 ea23 => ?_)
  subst ea23
  refine zr_invV_i (as := []) (cX8_count_ok l h1 a23) rfl rfl ⟨by decide, by decide, by decide⟩ zcd_X8_count rfl ⟨zw_808, zw_809, zw_810, zw_60⟩ ⟨Nat.le_of_ble_eq_true rfl, Nat.le_of_ble_eq_true rfl⟩ rfl (Nat.le_of_ble_eq_true rfl) (eX3_merge 9 rfl) (fun x24 => ?_)
  refine zr_iadd (eX3_merge 10 rfl) ?_
  refine v_leti (fun x25 => ?_)
  refine zr_istore (ls2 := [some (.ref a0, 3), some (.ref a21, 8), some (.ref a23, 8), some (.long x3, 0), none, some (.int 0, 0), some (.int 0, 0), some (.int x25, 0), none, none, none, none]) (eX3_merge 11 rfl) (Nat.le_of_ble_eq_true rfl) rfl ?_
  refine zr_iconst (eX3_merge 12 rfl) zk_iconst_0 ?_
  refine zr_istore (ls2 := [some (.ref a0, 3), some (.ref a21, 8), some (.ref a23, 8), some (.long x3, 0), none, some (.int 0, 0), some (.int 0, 0), some (.int x25, 0), some (.int 0, 0), none, none, none]) (eX3_merge 13 rfl) (Nat.le_of_ble_eq_true rfl) rfl ?_
  refine v_drop [true, true, true, true, false, true, true, true, true, false, false, false] rfl ?_
  refine zlp_ind (fun (k29 : Int32 → Int32 → Int32 → Zh → Option (Zh)) => ∀ (x26 : Int32) (x27 : Int32) (x28 : Int32) (h2 : Zh), V l mX3_merge (zN h) (zS h) 0 zoV 24 [some (.ref a0, 3), some (.ref a21, 8), some (.ref a23, 8), some (.long x3, 0), none, some (.int x26, 0), some (.int x27, 0), some (.int x25, 0), some (.int x28, 0), none, none, none] [] h2 (k29 x26 x27 x28 h2)) ?_ ?_ 0 0 0 h1
  · exact fun _ _ _ _ => v_none
  intro k29 hk29 x26 x27 x28 h2
  unfold gX3_merge_L10
  refine zr_iload (eX3_merge 14 rfl) rfl ?_
  refine zr_iload (eX3_merge 15 rfl) rfl ?_
  refine zr_icmp_ge (eX3_merge 16 rfl) (t := 267) (by decide) ?_ ?_
  · exact zr_vret rfl rfl (eX3_merge 141 rfl)
  · refine zr_iload (eX3_merge 17 rfl) rfl ?_
    refine zr_iload (eX3_merge 18 rfl) rfl ?_
    refine zr_iadd (eX3_merge 19 rfl) ?_
    refine zr_iload (eX3_merge 20 rfl) rfl ?_
    refine zr_icmp_ge (eX3_merge 21 rfl) (t := 267) (by decide) ?_ ?_
    · exact zr_vret rfl rfl (eX3_merge 141 rfl)
    · refine zr_iload (eX3_merge 22 rfl) rfl ?_
      refine zr_aload_n (r := (some a23)) (eX3_merge 23 rfl) rfl rfl ?_
      refine zr_invV_i (as := []) (cX8_count_ok l h2 a23) rfl rfl ⟨by decide, by decide, by decide⟩ zcd_X8_count rfl ⟨zw_808, zw_809, zw_810, zw_60⟩ ⟨Nat.le_of_ble_eq_true rfl, Nat.le_of_ble_eq_true rfl⟩ rfl (Nat.le_of_ble_eq_true rfl) (eX3_merge 24 rfl) (fun x30 => ?_)
      refine v_jn (fun (k60 : Int32 → Option (Zh)) => ∀ (x31 : Int32), V l mX3_merge (zN h) (zS h) 0 zoV 81 [some (.ref a0, 3), some (.ref a21, 8), some (.ref a23, 8), some (.long x3, 0), none, some (.int x26, 0), some (.int x27, 0), some (.int x25, 0), some (.int x28, 0), none, none, none] [(.int x31, 0)] h2 (k60 x31)) ?_ ?_
      · intro x31
        unfold gX3_merge_J7
        refine zr_istore (ls2 := [some (.ref a0, 3), some (.ref a21, 8), some (.ref a23, 8), some (.long x3, 0), none, some (.int x26, 0), some (.int x27, 0), some (.int x25, 0), some (.int x28, 0), some (.int x31, 0), none, none]) (eX3_merge 42 rfl) (Nat.le_of_ble_eq_true rfl) rfl ?_
        refine zr_iload (eX3_merge 43 rfl) rfl ?_
        refine zr_aload_n (r := (some a21)) (eX3_merge 44 rfl) rfl rfl ?_
        refine zr_invV_i (as := []) (cX8_count_ok l h2 a21) rfl rfl ⟨by decide, by decide, by decide⟩ zcd_X8_count rfl ⟨zw_808, zw_809, zw_810, zw_60⟩ ⟨Nat.le_of_ble_eq_true rfl, Nat.le_of_ble_eq_true rfl⟩ rfl (Nat.le_of_ble_eq_true rfl) (eX3_merge 45 rfl) (fun x32 => ?_)
        refine v_jn (fun (k52 : Int32 → Option (Zh)) => ∀ (x33 : Int32), V l mX3_merge (zN h) (zS h) 0 zoV 123 [some (.ref a0, 3), some (.ref a21, 8), some (.ref a23, 8), some (.long x3, 0), none, some (.int x26, 0), some (.int x27, 0), some (.int x25, 0), some (.int x28, 0), some (.int x31, 0), none, none] [(.int x33, 0)] h2 (k52 x33)) ?_ ?_
        · intro x33
          unfold gX3_merge_J4
          refine zr_istore (ls2 := [some (.ref a0, 3), some (.ref a21, 8), some (.ref a23, 8), some (.long x3, 0), none, some (.int x26, 0), some (.int x27, 0), some (.int x25, 0), some (.int x28, 0), some (.int x31, 0), some (.int x33, 0), none]) (eX3_merge 63 rfl) (Nat.le_of_ble_eq_true rfl) rfl ?_
          refine zr_iload (eX3_merge 64 rfl) rfl ?_
          refine v_jn (fun (k47 : Int32 → Option (Zh)) => ∀ (x34 : Int32), V l mX3_merge (zN h) (zS h) 0 zoV 147 [some (.ref a0, 3), some (.ref a21, 8), some (.ref a23, 8), some (.long x3, 0), none, some (.int x26, 0), some (.int x27, 0), some (.int x25, 0), some (.int x28, 0), some (.int x31, 0), some (.int x33, 0), none] [(.int x34, 0)] h2 (k47 x34)) ?_ ?_
          · intro x34
            unfold gX3_merge_J3
            refine zr_istore (ls2 := [some (.ref a0, 3), some (.ref a21, 8), some (.ref a23, 8), some (.long x3, 0), none, some (.int x26, 0), some (.int x27, 0), some (.int x25, 0), some (.int x28, 0), some (.int x31, 0), some (.int x33, 0), some (.int x34, 0)]) (eX3_merge 75 rfl) (Nat.le_of_ble_eq_true rfl) rfl ?_
            refine zr_aload_n (r := (some a0)) (eX3_merge 76 rfl) rfl rfl ?_
            refine zr_lconst (eX3_merge 77 rfl) zk_lconst_0 ?_
            refine zr_putJ zf_RX3_38 rfl (Or.inl rfl) (eX3_merge 78 rfl) ?_
            refine v_leth (fun h3 => ?_)
            refine zr_aload_n (r := (some a0)) (eX3_merge 79 rfl) rfl rfl ?_
            refine zr_lconst (eX3_merge 80 rfl) zk_lconst_0 ?_
            refine zr_putJ zf_RX3_42 rfl (Or.inl rfl) (eX3_merge 81 rfl) ?_
            refine v_leth (fun h4 => ?_)
            refine zr_iload (eX3_merge 82 rfl) rfl ?_
            refine v_jn (fun (k42 : Int32 → Zh → Option (Zh)) => ∀ (x35 : Int32) (h5 : Zh), V l mX3_merge (zN h) (zS h) 0 zoV 201 [some (.ref a0, 3), some (.ref a21, 8), some (.ref a23, 8), some (.long x3, 0), none, some (.int x35, 0), some (.int x27, 0), some (.int x25, 0), some (.int x28, 0), none, some (.int x33, 0), some (.int x34, 0)] [] h5 (k42 x35 h5)) ?_ ?_
            · intro x35 h5
              unfold gX3_merge_J2
              refine zr_iload (eX3_merge 105 rfl) rfl ?_
              refine v_jn (fun (k37 : Int32 → Zh → Option (Zh)) => ∀ (x36 : Int32) (h6 : Zh), V l mX3_merge (zN h) (zS h) 0 zoV 247 [some (.ref a0, 3), some (.ref a21, 8), some (.ref a23, 8), some (.long x3, 0), none, some (.int x35, 0), some (.int x36, 0), some (.int x25, 0), some (.int x28, 0), none, none, some (.int x34, 0)] [] h6 (k37 x36 h6)) ?_ ?_
              · intro x36 h6
                unfold gX3_merge_J1
                refine zr_aload_n (r := (some a0)) (eX3_merge 132 rfl) rfl rfl ?_
                refine zr_iload (eX3_merge 133 rfl) rfl ?_
                refine zr_aload_n (r := (some a0)) (eX3_merge 134 rfl) rfl rfl ?_
                refine zr_getJ zf_RX3_38 rfl (eX3_merge 135 rfl) ?_
                refine zr_aload_n (r := (some a0)) (eX3_merge 136 rfl) rfl rfl ?_
                refine zr_getJ zf_RX3_42 rfl (eX3_merge 137 rfl) ?_
                refine zr_invV_V (as := [(.int x34, 0), (.long (zJ h6 a0 8), 0), (.long (zJ h6 a0 9), 0)]) (cX3_emit_ok l h6 a0 x34 (zJ h6 a0 8) (zJ h6 a0 9)) rfl rfl ⟨by decide, by decide, by decide⟩ zcd_X3_emit rfl ⟨zw_812, zw_813, zw_814, zw_72⟩ ⟨Nat.le_of_ble_eq_true rfl, Nat.le_of_ble_eq_true rfl⟩ rfl (Nat.le_of_ble_eq_true rfl) (eX3_merge 138 rfl) (fun h7 => ?_)
                refine zr_iinc (ls2 := [some (.ref a0, 3), some (.ref a21, 8), some (.ref a23, 8), some (.long x3, 0), none, some (.int x35, 0), some (.int x36, 0), some (.int x25, 0), some (.int (x28 + 1), 0), none, none, some (.int x34, 0)]) (eX3_merge 139 rfl) rfl (Nat.le_of_ble_eq_true rfl) zk_iconst_1 rfl ?_
                refine zr_goto (eX3_merge 140 rfl) (t := 24) (by decide) ?_
                exact v_drop [true, true, true, true, false, true, true, true, true, false, false, false] rfl (hk29 x35 x36 (x28 + 1) h7)
              intro k37 hk37
              refine zr_if_eq (eX3_merge 106 rfl) (t := 247) (by decide) ?_ ?_
              · exact v_drop [true, true, true, true, false, true, true, true, true, false, false, true] rfl (hk37 x27 h5)
              · refine zr_aload_n (r := (some a0)) (eX3_merge 107 rfl) rfl rfl ?_
                refine zr_dup (eX3_merge 108 rfl) rfl ?_
                refine zr_getJ zf_RX3_38 rfl (eX3_merge 109 rfl) ?_
                refine zr_lload_n (eX3_merge 110 rfl) rfl rfl ?_
                refine zr_aload_n (r := (some a23)) (eX3_merge 111 rfl) rfl rfl ?_
                refine zr_getR2 zf_RX3_76 (τ2 := 20) rfl (eX3_merge 112 rfl) ?_
                refine v_letr (fun r38 => ?_)
                refine zr_iload (eX3_merge 113 rfl) rfl ?_
                refine v_nn (fun a39 ea39 => ?_)
                subst ea39
                refine zr_iald (eX3_merge 114 rfl) ?_
                refine zr_i2l (eX3_merge 115 rfl) ?_
                refine zr_lmul (eX3_merge 116 rfl) ?_
                refine zr_ladd (eX3_merge 117 rfl) ?_
                refine zr_putJ zf_RX3_38 rfl (Or.inl rfl) (eX3_merge 118 rfl) ?_
                refine v_leth (fun h8 => ?_)
                refine zr_aload_n (r := (some a0)) (eX3_merge 119 rfl) rfl rfl ?_
                refine zr_dup (eX3_merge 120 rfl) rfl ?_
                refine zr_getJ zf_RX3_42 rfl (eX3_merge 121 rfl) ?_
                refine zr_lload_n (eX3_merge 122 rfl) rfl rfl ?_
                refine zr_aload_n (r := (some a23)) (eX3_merge 123 rfl) rfl rfl ?_
                refine zr_getR2 zf_RX3_77 (τ2 := 20) rfl (eX3_merge 124 rfl) ?_
                refine v_letr (fun r40 => ?_)
                refine zr_iload (eX3_merge 125 rfl) rfl ?_
                refine v_nn (fun a41 ea41 => ?_)
                subst ea41
                refine zr_iald (eX3_merge 126 rfl) ?_
                refine zr_i2l (eX3_merge 127 rfl) ?_
                refine zr_lmul (eX3_merge 128 rfl) ?_
                refine zr_ladd (eX3_merge 129 rfl) ?_
                refine zr_putJ zf_RX3_42 rfl (Or.inl rfl) (eX3_merge 130 rfl) ?_
                refine v_leth (fun h9 => ?_)
                refine zr_iinc (ls2 := [some (.ref a0, 3), some (.ref a21, 8), some (.ref a23, 8), some (.long x3, 0), none, some (.int x35, 0), some (.int (x27 + 1), 0), some (.int x25, 0), some (.int x28, 0), none, some (.int x33, 0), some (.int x34, 0)]) (eX3_merge 131 rfl) rfl (Nat.le_of_ble_eq_true rfl) zk_iconst_1 rfl ?_
                exact v_drop [true, true, true, true, false, true, true, true, true, false, false, true] rfl (hk37 (x27 + 1) h9)
            intro k42 hk42
            refine zr_if_eq (eX3_merge 83 rfl) (t := 201) (by decide) ?_ ?_
            · exact v_drop [true, true, true, true, false, true, true, true, true, false, true, true] rfl (hk42 x26 h4)
            · refine zr_aload_n (r := (some a0)) (eX3_merge 84 rfl) rfl rfl ?_
              refine zr_dup (eX3_merge 85 rfl) rfl ?_
              refine zr_getJ zf_RX3_38 rfl (eX3_merge 86 rfl) ?_
              refine zr_aload_n (r := (some a21)) (eX3_merge 87 rfl) rfl rfl ?_
              refine zr_getR2 zf_RX3_76 (τ2 := 20) rfl (eX3_merge 88 rfl) ?_
              refine v_letr (fun r43 => ?_)
              refine zr_iload (eX3_merge 89 rfl) rfl ?_
              refine v_nn (fun a44 ea44 => ?_)
              subst ea44
              refine zr_iald (eX3_merge 90 rfl) ?_
              refine zr_i2l (eX3_merge 91 rfl) ?_
              refine zr_ladd (eX3_merge 92 rfl) ?_
              refine zr_putJ zf_RX3_38 rfl (Or.inl rfl) (eX3_merge 93 rfl) ?_
              refine v_leth (fun h10 => ?_)
              refine zr_aload_n (r := (some a0)) (eX3_merge 94 rfl) rfl rfl ?_
              refine zr_dup (eX3_merge 95 rfl) rfl ?_
              refine zr_getJ zf_RX3_42 rfl (eX3_merge 96 rfl) ?_
              refine zr_aload_n (r := (some a21)) (eX3_merge 97 rfl) rfl rfl ?_
              refine zr_getR2 zf_RX3_77 (τ2 := 20) rfl (eX3_merge 98 rfl) ?_
              refine v_letr (fun r45 => ?_)
              refine zr_iload (eX3_merge 99 rfl) rfl ?_
              refine v_nn (fun a46 ea46 => ?_)
              subst ea46
              refine zr_iald (eX3_merge 100 rfl) ?_
              refine zr_i2l (eX3_merge 101 rfl) ?_
              refine zr_ladd (eX3_merge 102 rfl) ?_
              refine zr_putJ zf_RX3_42 rfl (Or.inl rfl) (eX3_merge 103 rfl) ?_
              refine v_leth (fun h11 => ?_)
              refine zr_iinc (ls2 := [some (.ref a0, 3), some (.ref a21, 8), some (.ref a23, 8), some (.long x3, 0), none, some (.int (x26 + 1), 0), some (.int x27, 0), some (.int x25, 0), some (.int x28, 0), some (.int x31, 0), some (.int x33, 0), some (.int x34, 0)]) (eX3_merge 104 rfl) rfl (Nat.le_of_ble_eq_true rfl) zk_iconst_1 rfl ?_
              exact v_drop [true, true, true, true, false, true, true, true, true, false, true, true] rfl (hk42 (x26 + 1) h11)
          intro k47 hk47
          refine zr_if_eq (eX3_merge 65 rfl) (t := 140) (by decide) ?_ ?_
          · refine zr_aload_n (r := (some a23)) (eX3_merge 71 rfl) rfl rfl ?_
            refine zr_getR2 zf_RX3_75 (τ2 := 20) rfl (eX3_merge 72 rfl) ?_
            refine v_letr (fun r48 => ?_)
            refine zr_iload (eX3_merge 73 rfl) rfl ?_
            refine v_nn (fun a49 ea49 => ?_)
            subst ea49
            refine zr_iald (eX3_merge 74 rfl) ?_
            exact v_drop [true, true, true, true, false, true, true, true, true, true, true, false] rfl (hk47 (zI h2 a49 (zx x27)))
          · refine zr_aload_n (r := (some a21)) (eX3_merge 66 rfl) rfl rfl ?_
            refine zr_getR2 zf_RX3_75 (τ2 := 20) rfl (eX3_merge 67 rfl) ?_
            refine v_letr (fun r50 => ?_)
            refine zr_iload (eX3_merge 68 rfl) rfl ?_
            refine v_nn (fun a51 ea51 => ?_)
            subst ea51
            refine zr_iald (eX3_merge 69 rfl) ?_
            refine zr_goto (eX3_merge 70 rfl) (t := 147) (by decide) ?_
            exact v_drop [true, true, true, true, false, true, true, true, true, true, true, false] rfl (hk47 (zI h2 a51 (zx x26)))
        intro k52 hk52
        refine v_jn (fun (k53 : Option (Zh)) => V l mX3_merge (zN h) (zS h) 0 zoV 118 [some (.ref a0, 3), some (.ref a21, 8), some (.ref a23, 8), some (.long x3, 0), none, some (.int x26, 0), some (.int x27, 0), some (.int x25, 0), some (.int x28, 0), some (.int x31, 0), none, none] [] h2 k53) ?_ ?_
        · skip
          unfold gX3_merge_J5
          refine zr_iconst (eX3_merge 60 rfl) zk_iconst_1 ?_
          refine zr_goto (eX3_merge 61 rfl) (t := 123) (by decide) ?_
          exact v_drop [true, true, true, true, false, true, true, true, true, true, false, false] rfl (hk52 1)
        intro k53 hk53
        refine zr_icmp_ge (eX3_merge 46 rfl) (t := 118) (by decide) ?_ ?_
        · exact v_drop [true, true, true, true, false, true, true, true, true, true, false, false] rfl (hk53)
        · refine zr_iload (eX3_merge 47 rfl) rfl ?_
          refine zr_aload_n (r := (some a23)) (eX3_merge 48 rfl) rfl rfl ?_
          refine zr_invV_i (as := []) (cX8_count_ok l h2 a23) rfl rfl ⟨by decide, by decide, by decide⟩ zcd_X8_count rfl ⟨zw_808, zw_809, zw_810, zw_60⟩ ⟨Nat.le_of_ble_eq_true rfl, Nat.le_of_ble_eq_true rfl⟩ rfl (Nat.le_of_ble_eq_true rfl) (eX3_merge 49 rfl) (fun x54 => ?_)
          refine v_jn (fun (k55 : Option (Zh)) => V l mX3_merge (zN h) (zS h) 0 zoV 122 [some (.ref a0, 3), some (.ref a21, 8), some (.ref a23, 8), some (.long x3, 0), none, some (.int x26, 0), some (.int x27, 0), some (.int x25, 0), some (.int x28, 0), some (.int x31, 0), none, none] [] h2 k55) ?_ ?_
          · skip
            unfold gX3_merge_J6
            refine zr_iconst (eX3_merge 62 rfl) zk_iconst_0 ?_
            exact v_drop [true, true, true, true, false, true, true, true, true, true, false, false] rfl (hk52 0)
          intro k55 hk55
          refine zr_icmp_ge (eX3_merge 50 rfl) (t := 122) (by decide) ?_ ?_
          · exact v_drop [true, true, true, true, false, true, true, true, true, true, false, false] rfl (hk55)
          · refine zr_aload_n (r := (some a23)) (eX3_merge 51 rfl) rfl rfl ?_
            refine zr_getR2 zf_RX3_75 (τ2 := 20) rfl (eX3_merge 52 rfl) ?_
            refine v_letr (fun r56 => ?_)
            refine zr_iload (eX3_merge 53 rfl) rfl ?_
            refine v_nn (fun a57 ea57 => ?_)
            subst ea57
            refine zr_iald (eX3_merge 54 rfl) ?_
            refine zr_aload_n (r := (some a21)) (eX3_merge 55 rfl) rfl rfl ?_
            refine zr_getR2 zf_RX3_75 (τ2 := 20) rfl (eX3_merge 56 rfl) ?_
            refine v_letr (fun r58 => ?_)
            refine zr_iload (eX3_merge 57 rfl) rfl ?_
            refine v_nn (fun a59 ea59 => ?_)
            subst ea59
            refine zr_iald (eX3_merge 58 rfl) ?_
            refine zr_icmp_gt (eX3_merge 59 rfl) (t := 122) (by decide) ?_ ?_
            · exact v_drop [true, true, true, true, false, true, true, true, true, true, false, false] rfl (hk55)
            · exact v_drop [true, true, true, true, false, true, true, true, true, true, false, false] rfl (hk53)
      intro k60 hk60
      refine v_jn (fun (k61 : Option (Zh)) => V l mX3_merge (zN h) (zS h) 0 zoV 76 [some (.ref a0, 3), some (.ref a21, 8), some (.ref a23, 8), some (.long x3, 0), none, some (.int x26, 0), some (.int x27, 0), some (.int x25, 0), some (.int x28, 0), none, none, none] [] h2 k61) ?_ ?_
      · skip
        unfold gX3_merge_J8
        refine zr_iconst (eX3_merge 39 rfl) zk_iconst_1 ?_
        refine zr_goto (eX3_merge 40 rfl) (t := 81) (by decide) ?_
        exact v_drop [true, true, true, true, false, true, true, true, true, false, false, false] rfl (hk60 1)
      intro k61 hk61
      refine zr_icmp_ge (eX3_merge 25 rfl) (t := 76) (by decide) ?_ ?_
      · exact v_drop [true, true, true, true, false, true, true, true, true, false, false, false] rfl (hk61)
      · refine zr_iload (eX3_merge 26 rfl) rfl ?_
        refine zr_aload_n (r := (some a21)) (eX3_merge 27 rfl) rfl rfl ?_
        refine zr_invV_i (as := []) (cX8_count_ok l h2 a21) rfl rfl ⟨by decide, by decide, by decide⟩ zcd_X8_count rfl ⟨zw_808, zw_809, zw_810, zw_60⟩ ⟨Nat.le_of_ble_eq_true rfl, Nat.le_of_ble_eq_true rfl⟩ rfl (Nat.le_of_ble_eq_true rfl) (eX3_merge 28 rfl) (fun x62 => ?_)
        refine v_jn (fun (k63 : Option (Zh)) => V l mX3_merge (zN h) (zS h) 0 zoV 80 [some (.ref a0, 3), some (.ref a21, 8), some (.ref a23, 8), some (.long x3, 0), none, some (.int x26, 0), some (.int x27, 0), some (.int x25, 0), some (.int x28, 0), none, none, none] [] h2 k63) ?_ ?_
        · skip
          unfold gX3_merge_J9
          refine zr_iconst (eX3_merge 41 rfl) zk_iconst_0 ?_
          exact v_drop [true, true, true, true, false, true, true, true, true, false, false, false] rfl (hk60 0)
        intro k63 hk63
        refine zr_icmp_ge (eX3_merge 29 rfl) (t := 80) (by decide) ?_ ?_
        · exact v_drop [true, true, true, true, false, true, true, true, true, false, false, false] rfl (hk63)
        · refine zr_aload_n (r := (some a21)) (eX3_merge 30 rfl) rfl rfl ?_
          refine zr_getR2 zf_RX3_75 (τ2 := 20) rfl (eX3_merge 31 rfl) ?_
          refine v_letr (fun r64 => ?_)
          refine zr_iload (eX3_merge 32 rfl) rfl ?_
          refine v_nn (fun a65 ea65 => ?_)
          subst ea65
          refine zr_iald (eX3_merge 33 rfl) ?_
          refine zr_aload_n (r := (some a23)) (eX3_merge 34 rfl) rfl rfl ?_
          refine zr_getR2 zf_RX3_75 (τ2 := 20) rfl (eX3_merge 35 rfl) ?_
          refine v_letr (fun r66 => ?_)
          refine zr_iload (eX3_merge 36 rfl) rfl ?_
          refine v_nn (fun a67 ea67 => ?_)
          subst ea67
          refine zr_iald (eX3_merge 37 rfl) ?_
          refine zr_icmp_gt (eX3_merge 38 rfl) (t := 80) (by decide) ?_ ?_
          · exact v_drop [true, true, true, true, false, true, true, true, true, false, false, false] rfl (hk63)
          · exact v_drop [true, true, true, true, false, true, true, true, true, false, false, false] rfl (hk61)
def gX3_spell_L1 (a0 : Nat) (r1 : Option Nat) : (Int32 → Zh → Option (Zh)) → Int32 → Zh → Option (Zh) :=
  fun (k22 : Int32 → Zh → Option (Zh)) (x21 : Int32) (h3 : Zh) => Option.bind r1 (fun a23 => (if ((zI h3 a23 4) : Int32) ≤ x21 then some h3
  else zbi (gX0_pairsOf h3 a23 x21) (fun x24 => zlt ((zI h3 a23 2) * x24) (fun x25 => zbV (gX3_emit h3 a0 (x21 <<< ((8 : Int32) &&& 31)) ((x25 : Int32).toInt64) 0) (fun h4 => zbV (gX3_emit h4 a0 ((x21 <<< ((8 : Int32) &&& 31)) ||| x21) ((x25 : Int32).toInt64) 0) (fun h5 => k22 (x21 + 1) h5))))))
def gX3_spell_J2 (a0 : Nat) (r1 : Option Nat) : Zh → Option (Zh) :=
  fun (h2 : Zh) => zlp (fun (_ : Int32) (_ : Zh) => (none : Option (Zh))) (gX3_spell_L1 a0 r1) zFU 1 h2
def gX3_spell_L3 (a0 : Nat) (r1 : Option Nat) (k26 : Zh → Option (Zh)) : (Int32 → Zh → Option (Zh)) → Int32 → Zh → Option (Zh) :=
  fun (k28 : Int32 → Zh → Option (Zh)) (x27 : Int32) (h6 : Zh) => Option.bind r1 (fun a29 => (if ((zI h6 a29 4) : Int32) ≤ x27 then k26 h6
  else zbi (gX0_pairsOf h6 a29 x27) (fun x30 => zbV (gX3_emit h6 a0 x27 ((2 * (((zI h6 a29 3) : Int32).toInt64)) * ((x30 : Int32).toInt64)) 0) (fun h7 => k28 (x27 + 1) h7))))
def gX3_spell (h : Zh) (a0 : Nat) (r1 : Option Nat) : Option (Zh) :=
  zbV (gX3_begin h a0) (fun h1 => zjn (gX3_spell_J2 a0 r1) (fun (k26 : Zh → Option (Zh)) =>
  zlp (fun (_ : Int32) (_ : Zh) => (none : Option (Zh))) (gX3_spell_L3 a0 r1 k26) zFU 1 h1))
set_option maxRecDepth 20000 in
theorem cX3_spell_ok (l : Launch) (h : Zh) (a0 : Nat) (r1 : Option Nat) : Zc l yX3_spell mX3_spell 0 h [(.ref a0, 3), (va_rf r1, 0)] ((gX3_spell h a0 r1).map zoV) := by
  refine zc_of2 (ls := [some (.ref a0, 3), some (va_rf r1, 0), none, none]) (j := 2) (by decide +kernel) rfl rfl (zEn_ca (zEn_cr rfl)) (Nat.le_of_ble_eq_true rfl) rfl ?_
  unfold gX3_spell
  refine zr_aload_n (r := (some a0)) (eX3_spell 0 rfl) rfl rfl ?_
  refine zr_invV_V (as := []) (cX3_begin_ok l h a0) rfl rfl ⟨by decide, by decide, by decide⟩ zcd_X3_begin rfl ⟨zw_804, zw_805, zw_806, zw_72⟩ ⟨Nat.le_of_ble_eq_true rfl, Nat.le_of_ble_eq_true rfl⟩ rfl (Nat.le_of_ble_eq_true rfl) (eX3_spell 1 rfl) (fun h1 => ?_)
  refine zr_iconst (eX3_spell 2 rfl) zk_iconst_1 ?_
  refine zr_istore_n (ls2 := [some (.ref a0, 3), some (va_rf r1, 0), some (.int 1, 0), none]) (eX3_spell 3 rfl) rfl (Nat.le_of_ble_eq_true rfl) (by simp only [zst1, zst2, zcl_rf]) ?_
  refine v_jn (fun (k26 : Zh → Option (Zh)) => ∀ (h2 : Zh), V l mX3_spell (zN h) (zS h) 0 zoV 42 [some (.ref a0, 3), some (va_rf r1, 0), none, none] [] h2 (k26 h2)) ?_ ?_
  · intro h2
    unfold gX3_spell_J2
    refine zr_iconst (eX3_spell 24 rfl) zk_iconst_1 ?_
    refine zr_istore_n (ls2 := [some (.ref a0, 3), some (va_rf r1, 0), some (.int 1, 0), none]) (eX3_spell 25 rfl) rfl (Nat.le_of_ble_eq_true rfl) (by simp only [zst1, zst2, zcl_rf]) ?_
    refine v_drop [true, true, true, false] rfl ?_
    refine zlp_ind (fun (k22 : Int32 → Zh → Option (Zh)) => ∀ (x21 : Int32) (h3 : Zh), V l mX3_spell (zN h) (zS h) 0 zoV 44 [some (.ref a0, 3), some (va_rf r1, 0), some (.int x21, 0), none] [] h3 (k22 x21 h3)) ?_ ?_ 1 h2
    · exact fun _ _ => v_none
    intro k22 hk22 x21 h3
    unfold gX3_spell_L1
    refine zr_iload_n (eX3_spell 26 rfl) rfl rfl ?_
    refine zr_aload_n (r := r1) (eX3_spell 27 rfl) rfl rfl ?_
    refine v_nn (fun a23 ea23 => ?_)
    subst ea23
    refine zr_getI zf_RX3_82 ⟨by decide, by decide⟩ (eX3_spell 28 rfl) ?_
    refine zr_icmp_ge (eX3_spell 29 rfl) (t := 93) (by decide) ?_ ?_
    · exact zr_vret rfl rfl (eX3_spell 57 rfl)
    · refine zr_aload_n (r := (some a23)) (eX3_spell 30 rfl) rfl rfl ?_
      refine zr_getI zf_RX3_96 ⟨by decide, by decide⟩ (eX3_spell 31 rfl) ?_
      refine zr_aload_n (r := (some a23)) (eX3_spell 32 rfl) rfl rfl ?_
      refine zr_iload_n (eX3_spell 33 rfl) rfl rfl ?_
      refine zr_invV_i (as := [(.int x21, 0)]) (cX0_pairsOf_ok l h3 a23 x21) rfl rfl ⟨by decide, by decide, by decide⟩ zcd_X0_pairsOf rfl ⟨zw_866, zw_258, zw_259, zw_59⟩ ⟨Nat.le_of_ble_eq_true rfl, Nat.le_of_ble_eq_true rfl⟩ rfl (Nat.le_of_ble_eq_true rfl) (eX3_spell 34 rfl) (fun x24 => ?_)
      refine zr_imul (eX3_spell 35 rfl) ?_
      refine v_leti (fun x25 => ?_)
      refine zr_istore_n (ls2 := [some (.ref a0, 3), some (.ref a23, 0), some (.int x21, 0), some (.int x25, 0)]) (eX3_spell 36 rfl) rfl (Nat.le_of_ble_eq_true rfl) rfl ?_
      refine zr_aload_n (r := (some a0)) (eX3_spell 37 rfl) rfl rfl ?_
      refine zr_iload_n (eX3_spell 38 rfl) rfl rfl ?_
      refine zr_bipush (eX3_spell 39 rfl) zk_bipush_8 ?_
      refine zr_ishl (eX3_spell 40 rfl) ?_
      refine zr_iload_n (eX3_spell 41 rfl) rfl rfl ?_
      refine zr_i2l (eX3_spell 42 rfl) ?_
      refine zr_lconst (eX3_spell 43 rfl) zk_lconst_0 ?_
      refine zr_invV_V (as := [(.int (x21 <<< ((8 : Int32) &&& 31)), 0), (.long ((x25 : Int32).toInt64), 0), (.long 0, 0)]) (cX3_emit_ok l h3 a0 (x21 <<< ((8 : Int32) &&& 31)) ((x25 : Int32).toInt64) 0) rfl rfl ⟨by decide, by decide, by decide⟩ zcd_X3_emit rfl ⟨zw_812, zw_813, zw_814, zw_72⟩ ⟨Nat.le_of_ble_eq_true rfl, Nat.le_of_ble_eq_true rfl⟩ rfl (Nat.le_of_ble_eq_true rfl) (eX3_spell 44 rfl) (fun h4 => ?_)
      refine zr_aload_n (r := (some a0)) (eX3_spell 45 rfl) rfl rfl ?_
      refine zr_iload_n (eX3_spell 46 rfl) rfl rfl ?_
      refine zr_bipush (eX3_spell 47 rfl) zk_bipush_8 ?_
      refine zr_ishl (eX3_spell 48 rfl) ?_
      refine zr_iload_n (eX3_spell 49 rfl) rfl rfl ?_
      refine zr_ior (eX3_spell 50 rfl) ?_
      refine zr_iload_n (eX3_spell 51 rfl) rfl rfl ?_
      refine zr_i2l (eX3_spell 52 rfl) ?_
      refine zr_lconst (eX3_spell 53 rfl) zk_lconst_0 ?_
      refine zr_invV_V (as := [(.int ((x21 <<< ((8 : Int32) &&& 31)) ||| x21), 0), (.long ((x25 : Int32).toInt64), 0), (.long 0, 0)]) (cX3_emit_ok l h4 a0 ((x21 <<< ((8 : Int32) &&& 31)) ||| x21) ((x25 : Int32).toInt64) 0) rfl rfl ⟨by decide, by decide, by decide⟩ zcd_X3_emit rfl ⟨zw_812, zw_813, zw_814, zw_72⟩ ⟨Nat.le_of_ble_eq_true rfl, Nat.le_of_ble_eq_true rfl⟩ rfl (Nat.le_of_ble_eq_true rfl) (eX3_spell 54 rfl) (fun h5 => ?_)
      refine zr_iinc (ls2 := [some (.ref a0, 3), some (.ref a23, 0), some (.int (x21 + 1), 0), some (.int x25, 0)]) (eX3_spell 55 rfl) rfl (Nat.le_of_ble_eq_true rfl) zk_iconst_1 rfl ?_
      refine zr_goto (eX3_spell 56 rfl) (t := 44) (by decide) ?_
      exact v_drop [true, true, true, false] rfl (hk22 (x21 + 1) h5)
  intro k26 hk26
  refine v_drop [true, true, true, false] rfl ?_
  refine zlp_ind (fun (k28 : Int32 → Zh → Option (Zh)) => ∀ (x27 : Int32) (h6 : Zh), V l mX3_spell (zN h) (zS h) 0 zoV 6 [some (.ref a0, 3), some (va_rf r1, 0), some (.int x27, 0), none] [] h6 (k28 x27 h6)) ?_ ?_ 1 h1
  · exact fun _ _ => v_none
  intro k28 hk28 x27 h6
  unfold gX3_spell_L3
  refine zr_iload_n (eX3_spell 4 rfl) rfl rfl ?_
  refine zr_aload_n (r := r1) (eX3_spell 5 rfl) rfl rfl ?_
  refine v_nn (fun a29 ea29 => ?_)
  subst ea29
  refine zr_getI zf_RX3_82 ⟨by decide, by decide⟩ (eX3_spell 6 rfl) ?_
  refine zr_icmp_ge (eX3_spell 7 rfl) (t := 42) (by decide) ?_ ?_
  · exact v_drop [true, true, false, false] rfl (hk26 h6)
  · refine zr_aload_n (r := (some a0)) (eX3_spell 8 rfl) rfl rfl ?_
    refine zr_iload_n (eX3_spell 9 rfl) rfl rfl ?_
    refine zr_ldc2 (eX3_spell 10 rfl) zw_865 ?_
    refine zr_aload_n (r := (some a29)) (eX3_spell 11 rfl) rfl rfl ?_
    refine zr_getI zf_RX3_89 ⟨by decide, by decide⟩ (eX3_spell 12 rfl) ?_
    refine zr_i2l (eX3_spell 13 rfl) ?_
    refine zr_lmul (eX3_spell 14 rfl) ?_
    refine zr_aload_n (r := (some a29)) (eX3_spell 15 rfl) rfl rfl ?_
    refine zr_iload_n (eX3_spell 16 rfl) rfl rfl ?_
    refine zr_invV_i (as := [(.int x27, 0)]) (cX0_pairsOf_ok l h6 a29 x27) rfl rfl ⟨by decide, by decide, by decide⟩ zcd_X0_pairsOf rfl ⟨zw_866, zw_258, zw_259, zw_59⟩ ⟨Nat.le_of_ble_eq_true rfl, Nat.le_of_ble_eq_true rfl⟩ rfl (Nat.le_of_ble_eq_true rfl) (eX3_spell 17 rfl) (fun x30 => ?_)
    refine zr_i2l (eX3_spell 18 rfl) ?_
    refine zr_lmul (eX3_spell 19 rfl) ?_
    refine zr_lconst (eX3_spell 20 rfl) zk_lconst_0 ?_
    refine zr_invV_V (as := [(.int x27, 0), (.long ((2 * (((zI h6 a29 3) : Int32).toInt64)) * ((x30 : Int32).toInt64)), 0), (.long 0, 0)]) (cX3_emit_ok l h6 a0 x27 ((2 * (((zI h6 a29 3) : Int32).toInt64)) * ((x30 : Int32).toInt64)) 0) rfl rfl ⟨by decide, by decide, by decide⟩ zcd_X3_emit rfl ⟨zw_812, zw_813, zw_814, zw_72⟩ ⟨Nat.le_of_ble_eq_true rfl, Nat.le_of_ble_eq_true rfl⟩ rfl (Nat.le_of_ble_eq_true rfl) (eX3_spell 21 rfl) (fun h7 => ?_)
    refine zr_iinc (ls2 := [some (.ref a0, 3), some (.ref a29, 0), some (.int (x27 + 1), 0), none]) (eX3_spell 22 rfl) rfl (Nat.le_of_ble_eq_true rfl) zk_iconst_1 rfl ?_
    refine zr_goto (eX3_spell 23 rfl) (t := 6) (by decide) ?_
    exact v_drop [true, true, true, false] rfl (hk28 (x27 + 1) h7)
def gX3_makeRoom_J1 (h : Zh) (a0 : Nat) : Int32 → Option (Zh) :=
  fun (x24 : Int32) => zlt (zR h a0 4) (fun r25 => Option.bind r25 (fun a26 => (if (x24 : Int32) ≤ (Int32.ofNat (zL h a26)) then some h
  else zg (zok x24) (zlt (zN h) (fun a27 => zlt (zA h 20 (zx x24)) (fun (h1 : Zh) => zlt (zsR h1 a0 4 (some a27)) (fun (h2 : Zh) => zg (zok x24) (zlt (zN h2) (fun a28 => zlt (zA h2 20 (zx x24)) (fun (h3 : Zh) => zlt (zsR h3 a0 5 (some a28)) (fun (h4 : Zh) => some h4)))))))))))
def gX3_makeRoom_L2 (x1 : Int32) (k29 : Int32 → Option (Zh)) : (Int32 → Option (Zh)) → Int32 → Option (Zh) :=
  fun (k31 : Int32 → Option (Zh)) (x30 : Int32) => (if (x1 : Int32) ≤ x30 then k29 x30
  else (if (4096 : Int32) ≤ x30 then k29 x30
  else zlt (x30 * 2) (fun x32 => k31 x32)))
def gX3_makeRoom (h : Zh) (a0 : Nat) (x1 : Int32) : Option (Zh) :=
  zlt (zR h a0 4) (fun r21 => Option.bind r21 (fun a22 => zlt (Int32.ofNat (zL h a22)) (fun x23 => zjn (gX3_makeRoom_J1 h a0) (fun (k29 : Int32 → Option (Zh)) =>
  zlp (fun (_ : Int32) => (none : Option (Zh))) (gX3_makeRoom_L2 x1 k29) zFU x23))))
set_option maxRecDepth 20000 in
theorem cX3_makeRoom_ok (l : Launch) (h : Zh) (a0 : Nat) (x1 : Int32) : Zc l yX3_makeRoom mX3_makeRoom 0 h [(.ref a0, 3), (.int x1, 0)] ((gX3_makeRoom h a0 x1).map zoV) := by
  refine zc_of2 (ls := [some (.ref a0, 3), some (.int x1, 0), none]) (j := 1) (by decide +kernel) rfl rfl (zEn_ca (zEn_ci rfl)) (Nat.le_of_ble_eq_true rfl) rfl ?_
  unfold gX3_makeRoom
  refine zr_aload_n (r := (some a0)) (eX3_makeRoom 0 rfl) rfl rfl ?_
  refine zr_getR2 zf_RX3_24 (τ2 := 20) rfl (eX3_makeRoom 1 rfl) ?_
  refine v_letr (fun r21 => ?_)
  refine v_nn (fun a22 ea22 => ?_)
  subst ea22
  refine zr_alen (by decide) (eX3_makeRoom 2 rfl) ?_
  refine v_leti (fun x23 => ?_)
  refine zr_istore_n (ls2 := [some (.ref a0, 3), some (.int x1, 0), some (.int x23, 0)]) (eX3_makeRoom 3 rfl) rfl (Nat.le_of_ble_eq_true rfl) rfl ?_
  refine v_jn (fun (k29 : Int32 → Option (Zh)) => ∀ (x24 : Int32), V l mX3_makeRoom (zN h) (zS h) 0 zoV 25 [some (.ref a0, 3), none, some (.int x24, 0)] [] h (k29 x24)) ?_ ?_
  · intro x24
    unfold gX3_makeRoom_J1
    refine zr_iload_n (eX3_makeRoom 15 rfl) rfl rfl ?_
    refine zr_aload_n (r := (some a0)) (eX3_makeRoom 16 rfl) rfl rfl ?_
    refine zr_getR2 zf_RX3_24 (τ2 := 20) rfl (eX3_makeRoom 17 rfl) ?_
    refine v_letr (fun r25 => ?_)
    refine v_nn (fun a26 ea26 => ?_)
    subst ea26
    refine zr_alen (by decide) (eX3_makeRoom 18 rfl) ?_
    refine zr_icmp_le (eX3_makeRoom 19 rfl) (t := 48) (by decide) ?_ ?_
    · exact zr_vret rfl rfl (eX3_makeRoom 28 rfl)
    · refine zr_aload_n (r := (some a0)) (eX3_makeRoom 20 rfl) rfl rfl ?_
      refine zr_iload_n (eX3_makeRoom 21 rfl) rfl rfl ?_
      refine zr_newi zw_154 (eX3_makeRoom 22 rfl) ?_
      refine zr_leta (fun a27 => ?_)
      refine v_leth (fun h1 => ?_)
      refine zr_putR (x := (some a27)) zf_RX3_24 (by decide) (fun _ h => h) (Or.inl rfl) (eX3_makeRoom 23 rfl) ?_
      refine v_leth (fun h2 => ?_)
      refine zr_aload_n (r := (some a0)) (eX3_makeRoom 24 rfl) rfl rfl ?_
      refine zr_iload_n (eX3_makeRoom 25 rfl) rfl rfl ?_
      refine zr_newi zw_154 (eX3_makeRoom 26 rfl) ?_
      refine zr_leta (fun a28 => ?_)
      refine v_leth (fun h3 => ?_)
      refine zr_putR (x := (some a28)) zf_RX3_27 (by decide) (fun _ h => h) (Or.inl rfl) (eX3_makeRoom 27 rfl) ?_
      refine v_leth (fun h4 => ?_)
      exact zr_vret rfl rfl (eX3_makeRoom 28 rfl)
  intro k29 hk29
  refine v_drop [true, true, true] rfl ?_
  refine zlp_ind (fun (k31 : Int32 → Option (Zh)) => ∀ (x30 : Int32), V l mX3_makeRoom (zN h) (zS h) 0 zoV 6 [some (.ref a0, 3), some (.int x1, 0), some (.int x30, 0)] [] h (k31 x30)) ?_ ?_ x23
  · exact fun _ => v_none
  intro k31 hk31 x30
  unfold gX3_makeRoom_L2
  refine zr_iload_n (eX3_makeRoom 4 rfl) rfl rfl ?_
  refine zr_iload_n (eX3_makeRoom 5 rfl) rfl rfl ?_
  refine zr_icmp_ge (eX3_makeRoom 6 rfl) (t := 25) (by decide) ?_ ?_
  · exact v_drop [true, false, true] rfl (hk29 x30)
  · refine zr_iload_n (eX3_makeRoom 7 rfl) rfl rfl ?_
    refine zr_sipush (eX3_makeRoom 8 rfl) zk_sipush_4096 ?_
    refine zr_icmp_ge (eX3_makeRoom 9 rfl) (t := 25) (by decide) ?_ ?_
    · exact v_drop [true, false, true] rfl (hk29 x30)
    · refine zr_iload_n (eX3_makeRoom 10 rfl) rfl rfl ?_
      refine zr_iconst (eX3_makeRoom 11 rfl) zk_iconst_2 ?_
      refine zr_imul (eX3_makeRoom 12 rfl) ?_
      refine v_leti (fun x32 => ?_)
      refine zr_istore_n (ls2 := [some (.ref a0, 3), some (.int x1, 0), some (.int x32, 0)]) (eX3_makeRoom 13 rfl) rfl (Nat.le_of_ble_eq_true rfl) rfl ?_
      refine zr_goto (eX3_makeRoom 14 rfl) (t := 6) (by decide) ?_
      exact v_drop [true, true, true] rfl (hk31 x32)
def gX3_sortByByte_L1 (a0 : Nat) (r1 : Option Nat) (r2 : Option Nat) (x3 : Int32) (x4 : Int32) : (Int32 → Zh → Option (Zh)) → Int32 → Zh → Option (Zh) :=
  fun (k23 : Int32 → Zh → Option (Zh)) (x22 : Int32) (h4 : Zh) => (if (x3 : Int32) ≤ x22 then some h4
  else Option.bind r1 (fun a24 => zg (zin x22 (zL h4 a24)) (zlt (((zI h4 a24 (zx x22)) >>> (x4 &&& 31)) &&& 255) (fun x25 => zlt (zR h4 a0 3) (fun r26 => Option.bind r26 (fun a27 => zg (zin x25 (zL h4 a27)) (zg (zin x22 (zL h4 a24)) (Option.bind r2 (fun a28 => zg (zin (zI h4 a27 (zx x25)) (zL h4 a28)) (zlt (zsI h4 a28 (zx (zI h4 a27 (zx x25))) (zI h4 a24 (zx x22))) (fun (h5 : Zh) => zlt (zR h5 a0 3) (fun r29 => Option.bind r29 (fun a30 => zg (zin x25 (zL h5 a30)) (zg (zin x25 (zL h5 a30)) (zlt (zsI h5 a30 (zx x25) ((zI h5 a30 (zx x25)) + 1)) (fun (h6 : Zh) => k23 (x22 + 1) h6))))))))))))))))
def gX3_sortByByte_J2 (a0 : Nat) (r1 : Option Nat) (r2 : Option Nat) (x3 : Int32) (x4 : Int32) : Zh → Option (Zh) :=
  fun (h3 : Zh) => zlp (fun (_ : Int32) (_ : Zh) => (none : Option (Zh))) (gX3_sortByByte_L1 a0 r1 r2 x3 x4) zFU 0 h3
def gX3_sortByByte_L3 (a0 : Nat) (k31 : Zh → Option (Zh)) : (Int32 → Zh → Option (Zh)) → Int32 → Zh → Option (Zh) :=
  fun (k33 : Int32 → Zh → Option (Zh)) (x32 : Int32) (h7 : Zh) => (if (256 : Int32) ≤ x32 then k31 h7
  else zlt (zR h7 a0 3) (fun r34 => zlt (x32 + 1) (fun x35 => Option.bind r34 (fun a36 => zg (zin x35 (zL h7 a36)) (zlt (zR h7 a0 3) (fun r37 => Option.bind r37 (fun a38 => zg (zin x32 (zL h7 a38)) (zg (zin x35 (zL h7 a36)) (zlt (zsI h7 a36 (zx x35) ((zI h7 a36 (zx x35)) + (zI h7 a38 (zx x32)))) (fun (h8 : Zh) => k33 (x32 + 1) h8))))))))))
def gX3_sortByByte_J4 (a0 : Nat) (r1 : Option Nat) (r2 : Option Nat) (x3 : Int32) (x4 : Int32) : Zh → Option (Zh) :=
  fun (h2 : Zh) => zjn (gX3_sortByByte_J2 a0 r1 r2 x3 x4) (fun (k31 : Zh → Option (Zh)) =>
  zlp (fun (_ : Int32) (_ : Zh) => (none : Option (Zh))) (gX3_sortByByte_L3 a0 k31) zFU 0 h2)
def gX3_sortByByte_L5 (a0 : Nat) (r1 : Option Nat) (x3 : Int32) (x4 : Int32) (k39 : Zh → Option (Zh)) : (Int32 → Zh → Option (Zh)) → Int32 → Zh → Option (Zh) :=
  fun (k41 : Int32 → Zh → Option (Zh)) (x40 : Int32) (h9 : Zh) => (if (x3 : Int32) ≤ x40 then k39 h9
  else zlt (zR h9 a0 3) (fun r42 => Option.bind r1 (fun a43 => zg (zin x40 (zL h9 a43)) (zlt ((((zI h9 a43 (zx x40)) >>> (x4 &&& 31)) &&& 255) + 1) (fun x44 => Option.bind r42 (fun a45 => zg (zin x44 (zL h9 a45)) (zg (zin x44 (zL h9 a45)) (zlt (zsI h9 a45 (zx x44) ((zI h9 a45 (zx x44)) + 1)) (fun (h10 : Zh) => k41 (x40 + 1) h10)))))))))
def gX3_sortByByte (h : Zh) (a0 : Nat) (r1 : Option Nat) (r2 : Option Nat) (x3 : Int32) (x4 : Int32) : Option (Zh) :=
  zlt (zR h a0 3) (fun r21 => zbV (gJ7_fill_53178 h r21 0) (fun h1 => zjn (gX3_sortByByte_J4 a0 r1 r2 x3 x4) (fun (k39 : Zh → Option (Zh)) =>
  zlp (fun (_ : Int32) (_ : Zh) => (none : Option (Zh))) (gX3_sortByByte_L5 a0 r1 x3 x4 k39) zFU 0 h1)))
set_option maxRecDepth 20000 in
theorem cX3_sortByByte_ok (l : Launch) (h : Zh) (a0 : Nat) (r1 : Option Nat) (r2 : Option Nat) (x3 : Int32) (x4 : Int32) : Zc l yX3_sortByByte mX3_sortByByte 0 h [(.ref a0, 3), (va_rf r1, 20), (va_rf r2, 20), (.int x3, 0), (.int x4, 0)] ((gX3_sortByByte h a0 r1 r2 x3 x4).map zoV) := by
  refine zc_of2 (ls := [some (.ref a0, 3), some (va_rf r1, 20), some (va_rf r2, 20), some (.int x3, 0), some (.int x4, 0), none, none]) (j := 2) (by decide +kernel) rfl rfl (zEn_ca (zEn_cr (zEn_cr (zEn_ci (zEn_ci rfl))))) (Nat.le_of_ble_eq_true rfl) rfl ?_
  unfold gX3_sortByByte
  refine zr_aload_n (r := (some a0)) (eX3_sortByByte 0 rfl) rfl rfl ?_
  refine zr_getR2 zf_RX3_21 (τ2 := 20) rfl (eX3_sortByByte 1 rfl) ?_
  refine v_letr (fun r21 => ?_)
  refine zr_iconst (eX3_sortByByte 2 rfl) zk_iconst_0 ?_
  refine zr_invS_V (as := [(va_rf r21, 20), (.int 0, 0)]) (cJ7_fill_53178_ok l h r21 0) rfl zcd_J7_fill_53178 ⟨zw_891, zw_892, zw_65⟩ ⟨Nat.le_of_ble_eq_true rfl, Nat.le_of_ble_eq_true rfl⟩ rfl (Nat.le_of_ble_eq_true rfl) (eX3_sortByByte 3 rfl) (fun h1 => ?_)
  refine zr_iconst (eX3_sortByByte 4 rfl) zk_iconst_0 ?_
  refine zr_istore (ls2 := [some (.ref a0, 3), some (va_rf r1, 20), some (va_rf r2, 20), some (.int x3, 0), some (.int x4, 0), some (.int 0, 0), none]) (eX3_sortByByte 5 rfl) (Nat.le_of_ble_eq_true rfl) rfl ?_
  refine v_jn (fun (k39 : Zh → Option (Zh)) => ∀ (h2 : Zh), V l mX3_sortByByte (zN h) (zS h) 0 zoV 45 [some (.ref a0, 3), some (va_rf r1, 20), some (va_rf r2, 20), some (.int x3, 0), some (.int x4, 0), none, none] [] h2 (k39 h2)) ?_ ?_
  · intro h2
    unfold gX3_sortByByte_J4
    refine zr_iconst (eX3_sortByByte 27 rfl) zk_iconst_0 ?_
    refine zr_istore (ls2 := [some (.ref a0, 3), some (va_rf r1, 20), some (va_rf r2, 20), some (.int x3, 0), some (.int x4, 0), some (.int 0, 0), none]) (eX3_sortByByte 28 rfl) (Nat.le_of_ble_eq_true rfl) rfl ?_
    refine v_jn (fun (k31 : Zh → Option (Zh)) => ∀ (h3 : Zh), V l mX3_sortByByte (zN h) (zS h) 0 zoV 81 [some (.ref a0, 3), some (va_rf r1, 20), some (va_rf r2, 20), some (.int x3, 0), some (.int x4, 0), none, none] [] h3 (k31 h3)) ?_ ?_
    · intro h3
      unfold gX3_sortByByte_J2
      refine zr_iconst (eX3_sortByByte 47 rfl) zk_iconst_0 ?_
      refine zr_istore (ls2 := [some (.ref a0, 3), some (va_rf r1, 20), some (va_rf r2, 20), some (.int x3, 0), some (.int x4, 0), some (.int 0, 0), none]) (eX3_sortByByte 48 rfl) (Nat.le_of_ble_eq_true rfl) rfl ?_
      refine v_drop [true, true, true, true, true, true, false] rfl ?_
      refine zlp_ind (fun (k23 : Int32 → Zh → Option (Zh)) => ∀ (x22 : Int32) (h4 : Zh), V l mX3_sortByByte (zN h) (zS h) 0 zoV 84 [some (.ref a0, 3), some (va_rf r1, 20), some (va_rf r2, 20), some (.int x3, 0), some (.int x4, 0), some (.int x22, 0), none] [] h4 (k23 x22 h4)) ?_ ?_ 0 h3
      · exact fun _ _ => v_none
      intro k23 hk23 x22 h4
      unfold gX3_sortByByte_L1
      refine zr_iload (eX3_sortByByte 49 rfl) rfl ?_
      refine zr_iload_n (eX3_sortByByte 50 rfl) rfl rfl ?_
      refine zr_icmp_ge (eX3_sortByByte 51 rfl) (t := 133) (by decide) ?_ ?_
      · exact zr_vret rfl rfl (eX3_sortByByte 79 rfl)
      · refine zr_aload_n (r := r1) (eX3_sortByByte 52 rfl) rfl rfl ?_
        refine zr_iload (eX3_sortByByte 53 rfl) rfl ?_
        refine v_nn (fun a24 ea24 => ?_)
        subst ea24
        refine zr_iald (eX3_sortByByte 54 rfl) ?_
        refine zr_iload (eX3_sortByByte 55 rfl) rfl ?_
        refine zr_ishr (eX3_sortByByte 56 rfl) ?_
        refine zr_sipush (eX3_sortByByte 57 rfl) zk_sipush_255 ?_
        refine zr_iand (eX3_sortByByte 58 rfl) ?_
        refine v_leti (fun x25 => ?_)
        refine zr_istore (ls2 := [some (.ref a0, 3), some (.ref a24, 20), some (va_rf r2, 20), some (.int x3, 0), some (.int x4, 0), some (.int x22, 0), some (.int x25, 0)]) (eX3_sortByByte 59 rfl) (Nat.le_of_ble_eq_true rfl) rfl ?_
        refine zr_aload_n (r := r2) (eX3_sortByByte 60 rfl) rfl rfl ?_
        refine zr_aload_n (r := (some a0)) (eX3_sortByByte 61 rfl) rfl rfl ?_
        refine zr_getR2 zf_RX3_21 (τ2 := 20) rfl (eX3_sortByByte 62 rfl) ?_
        refine v_letr (fun r26 => ?_)
        refine zr_iload (eX3_sortByByte 63 rfl) rfl ?_
        refine v_nn (fun a27 ea27 => ?_)
        subst ea27
        refine zr_iald (eX3_sortByByte 64 rfl) ?_
        refine zr_aload_n (r := (some a24)) (eX3_sortByByte 65 rfl) rfl rfl ?_
        refine zr_iload (eX3_sortByByte 66 rfl) rfl ?_
        refine zr_iald (eX3_sortByByte 67 rfl) ?_
        refine v_nn (fun a28 ea28 => ?_)
        subst ea28
        refine zr_iast (eX3_sortByByte 68 rfl) ?_
        refine v_leth (fun h5 => ?_)
        refine zr_aload_n (r := (some a0)) (eX3_sortByByte 69 rfl) rfl rfl ?_
        refine zr_getR2 zf_RX3_21 (τ2 := 20) rfl (eX3_sortByByte 70 rfl) ?_
        refine v_letr (fun r29 => ?_)
        refine zr_iload (eX3_sortByByte 71 rfl) rfl ?_
        refine v_nn (fun a30 ea30 => ?_)
        subst ea30
        refine zr_dup2 (eX3_sortByByte 72 rfl) rfl rfl ?_
        refine zr_iald (eX3_sortByByte 73 rfl) ?_
        refine zr_iconst (eX3_sortByByte 74 rfl) zk_iconst_1 ?_
        refine zr_iadd (eX3_sortByByte 75 rfl) ?_
        refine zr_iast (eX3_sortByByte 76 rfl) ?_
        refine v_leth (fun h6 => ?_)
        refine zr_iinc (ls2 := [some (.ref a0, 3), some (.ref a24, 20), some (.ref a28, 20), some (.int x3, 0), some (.int x4, 0), some (.int (x22 + 1), 0), some (.int x25, 0)]) (eX3_sortByByte 77 rfl) rfl (Nat.le_of_ble_eq_true rfl) zk_iconst_1 rfl ?_
        refine zr_goto (eX3_sortByByte 78 rfl) (t := 84) (by decide) ?_
        exact v_drop [true, true, true, true, true, true, false] rfl (hk23 (x22 + 1) h6)
    intro k31 hk31
    refine v_drop [true, true, true, true, true, true, false] rfl ?_
    refine zlp_ind (fun (k33 : Int32 → Zh → Option (Zh)) => ∀ (x32 : Int32) (h7 : Zh), V l mX3_sortByByte (zN h) (zS h) 0 zoV 48 [some (.ref a0, 3), some (va_rf r1, 20), some (va_rf r2, 20), some (.int x3, 0), some (.int x4, 0), some (.int x32, 0), none] [] h7 (k33 x32 h7)) ?_ ?_ 0 h2
    · exact fun _ _ => v_none
    intro k33 hk33 x32 h7
    unfold gX3_sortByByte_L3
    refine zr_iload (eX3_sortByByte 29 rfl) rfl ?_
    refine zr_sipush (eX3_sortByByte 30 rfl) zk_sipush_256 ?_
    refine zr_icmp_ge (eX3_sortByByte 31 rfl) (t := 81) (by decide) ?_ ?_
    · exact v_drop [true, true, true, true, true, false, false] rfl (hk31 h7)
    · refine zr_aload_n (r := (some a0)) (eX3_sortByByte 32 rfl) rfl rfl ?_
      refine zr_getR2 zf_RX3_21 (τ2 := 20) rfl (eX3_sortByByte 33 rfl) ?_
      refine v_letr (fun r34 => ?_)
      refine zr_iload (eX3_sortByByte 34 rfl) rfl ?_
      refine zr_iconst (eX3_sortByByte 35 rfl) zk_iconst_1 ?_
      refine zr_iadd (eX3_sortByByte 36 rfl) ?_
      refine v_leti (fun x35 => ?_)
      refine v_nn (fun a36 ea36 => ?_)
      subst ea36
      refine zr_dup2 (eX3_sortByByte 37 rfl) rfl rfl ?_
      refine zr_iald (eX3_sortByByte 38 rfl) ?_
      refine zr_aload_n (r := (some a0)) (eX3_sortByByte 39 rfl) rfl rfl ?_
      refine zr_getR2 zf_RX3_21 (τ2 := 20) rfl (eX3_sortByByte 40 rfl) ?_
      refine v_letr (fun r37 => ?_)
      refine zr_iload (eX3_sortByByte 41 rfl) rfl ?_
      refine v_nn (fun a38 ea38 => ?_)
      subst ea38
      refine zr_iald (eX3_sortByByte 42 rfl) ?_
      refine zr_iadd (eX3_sortByByte 43 rfl) ?_
      refine zr_iast (eX3_sortByByte 44 rfl) ?_
      refine v_leth (fun h8 => ?_)
      refine zr_iinc (ls2 := [some (.ref a0, 3), some (va_rf r1, 20), some (va_rf r2, 20), some (.int x3, 0), some (.int x4, 0), some (.int (x32 + 1), 0), none]) (eX3_sortByByte 45 rfl) rfl (Nat.le_of_ble_eq_true rfl) zk_iconst_1 rfl ?_
      refine zr_goto (eX3_sortByByte 46 rfl) (t := 48) (by decide) ?_
      exact v_drop [true, true, true, true, true, true, false] rfl (hk33 (x32 + 1) h8)
  intro k39 hk39
  refine v_drop [true, true, true, true, true, true, false] rfl ?_
  refine zlp_ind (fun (k41 : Int32 → Zh → Option (Zh)) => ∀ (x40 : Int32) (h9 : Zh), V l mX3_sortByByte (zN h) (zS h) 0 zoV 11 [some (.ref a0, 3), some (va_rf r1, 20), some (va_rf r2, 20), some (.int x3, 0), some (.int x4, 0), some (.int x40, 0), none] [] h9 (k41 x40 h9)) ?_ ?_ 0 h1
  · exact fun _ _ => v_none
  intro k41 hk41 x40 h9
  unfold gX3_sortByByte_L5
  refine zr_iload (eX3_sortByByte 6 rfl) rfl ?_
  refine zr_iload_n (eX3_sortByByte 7 rfl) rfl rfl ?_
  refine zr_icmp_ge (eX3_sortByByte 8 rfl) (t := 45) (by decide) ?_ ?_
  · exact v_drop [true, true, true, true, true, false, false] rfl (hk39 h9)
  · refine zr_aload_n (r := (some a0)) (eX3_sortByByte 9 rfl) rfl rfl ?_
    refine zr_getR2 zf_RX3_21 (τ2 := 20) rfl (eX3_sortByByte 10 rfl) ?_
    refine v_letr (fun r42 => ?_)
    refine zr_aload_n (r := r1) (eX3_sortByByte 11 rfl) rfl rfl ?_
    refine zr_iload (eX3_sortByByte 12 rfl) rfl ?_
    refine v_nn (fun a43 ea43 => ?_)
    subst ea43
    refine zr_iald (eX3_sortByByte 13 rfl) ?_
    refine zr_iload (eX3_sortByByte 14 rfl) rfl ?_
    refine zr_ishr (eX3_sortByByte 15 rfl) ?_
    refine zr_sipush (eX3_sortByByte 16 rfl) zk_sipush_255 ?_
    refine zr_iand (eX3_sortByByte 17 rfl) ?_
    refine zr_iconst (eX3_sortByByte 18 rfl) zk_iconst_1 ?_
    refine zr_iadd (eX3_sortByByte 19 rfl) ?_
    refine v_leti (fun x44 => ?_)
    refine v_nn (fun a45 ea45 => ?_)
    subst ea45
    refine zr_dup2 (eX3_sortByByte 20 rfl) rfl rfl ?_
    refine zr_iald (eX3_sortByByte 21 rfl) ?_
    refine zr_iconst (eX3_sortByByte 22 rfl) zk_iconst_1 ?_
    refine zr_iadd (eX3_sortByByte 23 rfl) ?_
    refine zr_iast (eX3_sortByByte 24 rfl) ?_
    refine v_leth (fun h10 => ?_)
    refine zr_iinc (ls2 := [some (.ref a0, 3), some (.ref a43, 20), some (va_rf r2, 20), some (.int x3, 0), some (.int x4, 0), some (.int (x40 + 1), 0), none]) (eX3_sortByByte 25 rfl) rfl (Nat.le_of_ble_eq_true rfl) zk_iconst_1 rfl ?_
    refine zr_goto (eX3_sortByByte 26 rfl) (t := 11) (by decide) ?_
    exact v_drop [true, true, true, true, true, true, false] rfl (hk41 (x40 + 1) h10)
def gX3_sortPairs (h : Zh) (a0 : Nat) (x1 : Int32) : Option (Zh) :=
  zlt (zR h a0 4) (fun r21 => zlt (zR h a0 5) (fun r22 => zbV (gX3_sortByByte h a0 r21 r22 x1 12) (fun h1 => zlt (zR h1 a0 5) (fun r23 => zlt (zR h1 a0 4) (fun r24 => zbV (gX3_sortByByte h1 a0 r23 r24 x1 20) (fun h2 => some h2))))))
set_option maxRecDepth 20000 in
theorem cX3_sortPairs_ok (l : Launch) (h : Zh) (a0 : Nat) (x1 : Int32) : Zc l yX3_sortPairs mX3_sortPairs 0 h [(.ref a0, 3), (.int x1, 0)] ((gX3_sortPairs h a0 x1).map zoV) := by
  refine zc_of2 (ls := [some (.ref a0, 3), some (.int x1, 0)]) (j := 0) (by decide +kernel) rfl rfl (zEn_ca (zEn_ci rfl)) (Nat.le_of_ble_eq_true rfl) rfl ?_
  unfold gX3_sortPairs
  refine zr_aload_n (r := (some a0)) (eX3_sortPairs 0 rfl) rfl rfl ?_
  refine zr_aload_n (r := (some a0)) (eX3_sortPairs 1 rfl) rfl rfl ?_
  refine zr_getR2 zf_RX3_24 (τ2 := 20) rfl (eX3_sortPairs 2 rfl) ?_
  refine v_letr (fun r21 => ?_)
  refine zr_aload_n (r := (some a0)) (eX3_sortPairs 3 rfl) rfl rfl ?_
  refine zr_getR2 zf_RX3_27 (τ2 := 20) rfl (eX3_sortPairs 4 rfl) ?_
  refine v_letr (fun r22 => ?_)
  refine zr_iload_n (eX3_sortPairs 5 rfl) rfl rfl ?_
  refine zr_bipush (eX3_sortPairs 6 rfl) zk_bipush_12 ?_
  refine zr_invV_V (as := [(va_rf r21, 20), (va_rf r22, 20), (.int x1, 0), (.int 12, 0)]) (cX3_sortByByte_ok l h a0 r21 r22 x1 12) rfl rfl ⟨by decide, by decide, by decide⟩ zcd_X3_sortByByte rfl ⟨zw_887, zw_888, zw_889, zw_72⟩ ⟨Nat.le_of_ble_eq_true rfl, Nat.le_of_ble_eq_true rfl⟩ rfl (Nat.le_of_ble_eq_true rfl) (eX3_sortPairs 7 rfl) (fun h1 => ?_)
  refine zr_aload_n (r := (some a0)) (eX3_sortPairs 8 rfl) rfl rfl ?_
  refine zr_aload_n (r := (some a0)) (eX3_sortPairs 9 rfl) rfl rfl ?_
  refine zr_getR2 zf_RX3_27 (τ2 := 20) rfl (eX3_sortPairs 10 rfl) ?_
  refine v_letr (fun r23 => ?_)
  refine zr_aload_n (r := (some a0)) (eX3_sortPairs 11 rfl) rfl rfl ?_
  refine zr_getR2 zf_RX3_24 (τ2 := 20) rfl (eX3_sortPairs 12 rfl) ?_
  refine v_letr (fun r24 => ?_)
  refine zr_iload_n (eX3_sortPairs 13 rfl) rfl rfl ?_
  refine zr_bipush (eX3_sortPairs 14 rfl) zk_bipush_20 ?_
  refine zr_invV_V (as := [(va_rf r23, 20), (va_rf r24, 20), (.int x1, 0), (.int 20, 0)]) (cX3_sortByByte_ok l h1 a0 r23 r24 x1 20) rfl rfl ⟨by decide, by decide, by decide⟩ zcd_X3_sortByByte rfl ⟨zw_887, zw_888, zw_889, zw_72⟩ ⟨Nat.le_of_ble_eq_true rfl, Nat.le_of_ble_eq_true rfl⟩ rfl (Nat.le_of_ble_eq_true rfl) (eX3_sortPairs 15 rfl) (fun h2 => ?_)
  exact zr_vret rfl rfl (eX3_sortPairs 16 rfl)
def gX3_roll_L1 (a0 : Nat) (a21 : Nat) : (Int32 → Zh → Option (Zh)) → Int32 → Zh → Option (Zh) :=
  fun (k25 : Int32 → Zh → Option (Zh)) (x24 : Int32) (h5 : Zh) => zbi (gX8_count h5 a21) (fun x26 => (if (x26 : Int32) ≤ x24 then some h5
  else zlt (zR h5 a0 4) (fun r27 => Option.bind r27 (fun a28 => zg (zin x24 (zL h5 a28)) (zlt ((zI h5 a28 (zx x24)) &&& 4095) (fun x29 => zlt (zR h5 a0 4) (fun r30 => Option.bind r30 (fun a31 => zg (zin x24 (zL h5 a31)) (zlt (zR h5 a21 1) (fun r32 => Option.bind r32 (fun a33 => zg (zin x29 (zL h5 a33)) (zlt (zR h5 a21 2) (fun r34 => Option.bind r34 (fun a35 => zg (zin x29 (zL h5 a35)) (zbV (gX3_emit h5 a0 ((zI h5 a31 (zx x24)) >>> ((12 : Int32) &&& 31)) (((zI h5 a33 (zx x29)) : Int32).toInt64) (((zI h5 a35 (zx x29)) : Int32).toInt64)) (fun h6 => k25 (x24 + 1) h6))))))))))))))))
def gX3_roll_J2 (a0 : Nat) (a21 : Nat) : Zh → Option (Zh) :=
  fun (h3 : Zh) => zbi (gX8_count h3 a21) (fun x23 => zbV (gX3_sortPairs h3 a0 x23) (fun h4 => zlp (fun (_ : Int32) (_ : Zh) => (none : Option (Zh))) (gX3_roll_L1 a0 a21) zFU 0 h4))
def gX3_roll_J3 (a0 : Nat) (x37 : Int32) (h7 : Zh) (k38 : Int32 → Zh → Option (Zh)) : Int32 → Int32 → Option (Zh) :=
  fun (x46 : Int32) (x47 : Int32) => zlt (zR h7 a0 4) (fun r48 => Option.bind r48 (fun a49 => zg (zin x37 (zL h7 a49)) (zlt (zsI h7 a49 (zx x37) ((((x46 <<< ((8 : Int32) &&& 31)) ||| x47) <<< ((12 : Int32) &&& 31)) ||| x37)) (fun (h8 : Zh) => k38 (x37 + 1) h8))))
def gX3_roll_L4 (r2 : Option Nat) (x3 : Int32) (h7 : Zh) (k50 : Int32 → Int32 → Option (Zh)) : (Int32 → Int32 → Int32 → Option (Zh)) → Int32 → Int32 → Int32 → Option (Zh) :=
  fun (k54 : Int32 → Int32 → Int32 → Option (Zh)) (x51 : Int32) (x52 : Int32) (x53 : Int32) => (if (x3 : Int32) ≤ x53 then k50 x51 x52
  else Option.bind r2 (fun a55 => zbi (gX0_onward h7 a55 x51) (fun x56 => zbi (gX0_onward h7 a55 x52) (fun x57 => k54 x56 x57 (x53 + 1)))))
def gX3_roll_L5 (a0 : Nat) (r2 : Option Nat) (x3 : Int32) (a21 : Nat) (k36 : Zh → Option (Zh)) : (Int32 → Zh → Option (Zh)) → Int32 → Zh → Option (Zh) :=
  fun (k38 : Int32 → Zh → Option (Zh)) (x37 : Int32) (h7 : Zh) => zbi (gX8_count h7 a21) (fun x39 => (if (x39 : Int32) ≤ x37 then k36 h7
  else zlt (zR h7 a21 0) (fun r40 => Option.bind r40 (fun a41 => zg (zin x37 (zL h7 a41)) (zlt ((zI h7 a41 (zx x37)) >>> ((8 : Int32) &&& 31)) (fun x42 => zlt (zR h7 a21 0) (fun r43 => Option.bind r43 (fun a44 => zg (zin x37 (zL h7 a44)) (zlt ((zI h7 a44 (zx x37)) &&& 255) (fun x45 => zjn (gX3_roll_J3 a0 x37 h7 k38) (fun (k50 : Int32 → Int32 → Option (Zh)) =>
  zlp (fun (_ : Int32) (_ : Int32) (_ : Int32) => (none : Option (Zh))) (gX3_roll_L4 r2 x3 h7 k50) zFU x42 x45 0)))))))))))
def gX3_roll (h : Zh) (a0 : Nat) (r1 : Option Nat) (r2 : Option Nat) (x3 : Int32) : Option (Zh) :=
  zbV (gX3_begin h a0) (fun h1 => Option.bind r1 (fun a21 => zbi (gX8_count h1 a21) (fun x22 => zbV (gX3_makeRoom h1 a0 x22) (fun h2 => zjn (gX3_roll_J2 a0 a21) (fun (k36 : Zh → Option (Zh)) =>
  zlp (fun (_ : Int32) (_ : Zh) => (none : Option (Zh))) (gX3_roll_L5 a0 r2 x3 a21 k36) zFU 0 h2)))))
set_option maxRecDepth 20000 in
theorem cX3_roll_ok (l : Launch) (h : Zh) (a0 : Nat) (r1 : Option Nat) (r2 : Option Nat) (x3 : Int32) : Zc l yX3_roll mX3_roll 0 h [(.ref a0, 3), (va_rf r1, 8), (va_rf r2, 0), (.int x3, 0)] ((gX3_roll h a0 r1 r2 x3).map zoV) := by
  refine zc_of2 (ls := [some (.ref a0, 3), some (va_rf r1, 8), some (va_rf r2, 0), some (.int x3, 0), none, none, none, none]) (j := 4) (by decide +kernel) rfl rfl (zEn_ca (zEn_cr (zEn_cr (zEn_ci rfl)))) (Nat.le_of_ble_eq_true rfl) rfl ?_
  unfold gX3_roll
  refine zr_aload_n (r := (some a0)) (eX3_roll 0 rfl) rfl rfl ?_
  refine zr_invV_V (as := []) (cX3_begin_ok l h a0) rfl rfl ⟨by decide, by decide, by decide⟩ zcd_X3_begin rfl ⟨zw_804, zw_805, zw_806, zw_72⟩ ⟨Nat.le_of_ble_eq_true rfl, Nat.le_of_ble_eq_true rfl⟩ rfl (Nat.le_of_ble_eq_true rfl) (eX3_roll 1 rfl) (fun h1 => ?_)
  refine zr_aload_n (r := (some a0)) (eX3_roll 2 rfl) rfl rfl ?_
  refine zr_aload_n (r := r1) (eX3_roll 3 rfl) rfl rfl ?_
  refine v_nn (fun a21 ea21 => ?_)
  subst ea21
  refine zr_invV_i (as := []) (cX8_count_ok l h1 a21) rfl rfl ⟨by decide, by decide, by decide⟩ zcd_X8_count rfl ⟨zw_808, zw_809, zw_810, zw_60⟩ ⟨Nat.le_of_ble_eq_true rfl, Nat.le_of_ble_eq_true rfl⟩ rfl (Nat.le_of_ble_eq_true rfl) (eX3_roll 4 rfl) (fun x22 => ?_)
  refine zr_invV_V (as := [(.int x22, 0)]) (cX3_makeRoom_ok l h1 a0 x22) rfl rfl ⟨by decide, by decide, by decide⟩ zcd_X3_makeRoom rfl ⟨zw_875, zw_876, zw_877, zw_72⟩ ⟨Nat.le_of_ble_eq_true rfl, Nat.le_of_ble_eq_true rfl⟩ rfl (Nat.le_of_ble_eq_true rfl) (eX3_roll 5 rfl) (fun h2 => ?_)
  refine zr_iconst (eX3_roll 6 rfl) zk_iconst_0 ?_
  refine zr_istore (ls2 := [some (.ref a0, 3), some (.ref a21, 8), some (va_rf r2, 0), some (.int x3, 0), some (.int 0, 0), none, none, none]) (eX3_roll 7 rfl) (Nat.le_of_ble_eq_true rfl) rfl ?_
  refine v_jn (fun (k36 : Zh → Option (Zh)) => ∀ (h3 : Zh), V l mX3_roll (zN h) (zS h) 0 zoV 107 [some (.ref a0, 3), some (.ref a21, 8), none, none, none, none, none, none] [] h3 (k36 h3)) ?_ ?_
  · intro h3
    unfold gX3_roll_J2
    refine zr_aload_n (r := (some a0)) (eX3_roll 56 rfl) rfl rfl ?_
    refine zr_aload_n (r := (some a21)) (eX3_roll 57 rfl) rfl rfl ?_
    refine zr_invV_i (as := []) (cX8_count_ok l h3 a21) rfl rfl ⟨by decide, by decide, by decide⟩ zcd_X8_count rfl ⟨zw_808, zw_809, zw_810, zw_60⟩ ⟨Nat.le_of_ble_eq_true rfl, Nat.le_of_ble_eq_true rfl⟩ rfl (Nat.le_of_ble_eq_true rfl) (eX3_roll 58 rfl) (fun x23 => ?_)
    refine zr_invV_V (as := [(.int x23, 0)]) (cX3_sortPairs_ok l h3 a0 x23) rfl rfl ⟨by decide, by decide, by decide⟩ zcd_X3_sortPairs rfl ⟨zw_883, zw_884, zw_885, zw_72⟩ ⟨Nat.le_of_ble_eq_true rfl, Nat.le_of_ble_eq_true rfl⟩ rfl (Nat.le_of_ble_eq_true rfl) (eX3_roll 59 rfl) (fun h4 => ?_)
    refine zr_iconst (eX3_roll 60 rfl) zk_iconst_0 ?_
    refine zr_istore (ls2 := [some (.ref a0, 3), some (.ref a21, 8), none, none, some (.int 0, 0), none, none, none]) (eX3_roll 61 rfl) (Nat.le_of_ble_eq_true rfl) rfl ?_
    refine v_drop [true, true, false, false, true, false, false, false] rfl ?_
    refine zlp_ind (fun (k25 : Int32 → Zh → Option (Zh)) => ∀ (x24 : Int32) (h5 : Zh), V l mX3_roll (zN h) (zS h) 0 zoV 118 [some (.ref a0, 3), some (.ref a21, 8), none, none, some (.int x24, 0), none, none, none] [] h5 (k25 x24 h5)) ?_ ?_ 0 h4
    · exact fun _ _ => v_none
    intro k25 hk25 x24 h5
    unfold gX3_roll_L1
    refine zr_iload (eX3_roll 62 rfl) rfl ?_
    refine zr_aload_n (r := (some a21)) (eX3_roll 63 rfl) rfl rfl ?_
    refine zr_invV_i (as := []) (cX8_count_ok l h5 a21) rfl rfl ⟨by decide, by decide, by decide⟩ zcd_X8_count rfl ⟨zw_808, zw_809, zw_810, zw_60⟩ ⟨Nat.le_of_ble_eq_true rfl, Nat.le_of_ble_eq_true rfl⟩ rfl (Nat.le_of_ble_eq_true rfl) (eX3_roll 64 rfl) (fun x26 => ?_)
    refine zr_icmp_ge (eX3_roll 65 rfl) (t := 176) (by decide) ?_ ?_
    · exact zr_vret rfl rfl (eX3_roll 93 rfl)
    · refine zr_aload_n (r := (some a0)) (eX3_roll 66 rfl) rfl rfl ?_
      refine zr_getR2 zf_RX3_24 (τ2 := 20) rfl (eX3_roll 67 rfl) ?_
      refine v_letr (fun r27 => ?_)
      refine zr_iload (eX3_roll 68 rfl) rfl ?_
      refine v_nn (fun a28 ea28 => ?_)
      subst ea28
      refine zr_iald (eX3_roll 69 rfl) ?_
      refine zr_sipush (eX3_roll 70 rfl) zk_sipush_4095 ?_
      refine zr_iand (eX3_roll 71 rfl) ?_
      refine v_leti (fun x29 => ?_)
      refine zr_istore (ls2 := [some (.ref a0, 3), some (.ref a21, 8), none, none, some (.int x24, 0), some (.int x29, 0), none, none]) (eX3_roll 72 rfl) (Nat.le_of_ble_eq_true rfl) rfl ?_
      refine zr_aload_n (r := (some a0)) (eX3_roll 73 rfl) rfl rfl ?_
      refine zr_aload_n (r := (some a0)) (eX3_roll 74 rfl) rfl rfl ?_
      refine zr_getR2 zf_RX3_24 (τ2 := 20) rfl (eX3_roll 75 rfl) ?_
      refine v_letr (fun r30 => ?_)
      refine zr_iload (eX3_roll 76 rfl) rfl ?_
      refine v_nn (fun a31 ea31 => ?_)
      subst ea31
      refine zr_iald (eX3_roll 77 rfl) ?_
      refine zr_bipush (eX3_roll 78 rfl) zk_bipush_12 ?_
      refine zr_ishr (eX3_roll 79 rfl) ?_
      refine zr_aload_n (r := (some a21)) (eX3_roll 80 rfl) rfl rfl ?_
      refine zr_getR2 zf_RX3_76 (τ2 := 20) rfl (eX3_roll 81 rfl) ?_
      refine v_letr (fun r32 => ?_)
      refine zr_iload (eX3_roll 82 rfl) rfl ?_
      refine v_nn (fun a33 ea33 => ?_)
      subst ea33
      refine zr_iald (eX3_roll 83 rfl) ?_
      refine zr_i2l (eX3_roll 84 rfl) ?_
      refine zr_aload_n (r := (some a21)) (eX3_roll 85 rfl) rfl rfl ?_
      refine zr_getR2 zf_RX3_77 (τ2 := 20) rfl (eX3_roll 86 rfl) ?_
      refine v_letr (fun r34 => ?_)
      refine zr_iload (eX3_roll 87 rfl) rfl ?_
      refine v_nn (fun a35 ea35 => ?_)
      subst ea35
      refine zr_iald (eX3_roll 88 rfl) ?_
      refine zr_i2l (eX3_roll 89 rfl) ?_
      refine zr_invV_V (as := [(.int ((zI h5 a31 (zx x24)) >>> ((12 : Int32) &&& 31)), 0), (.long (((zI h5 a33 (zx x29)) : Int32).toInt64), 0), (.long (((zI h5 a35 (zx x29)) : Int32).toInt64), 0)]) (cX3_emit_ok l h5 a0 ((zI h5 a31 (zx x24)) >>> ((12 : Int32) &&& 31)) (((zI h5 a33 (zx x29)) : Int32).toInt64) (((zI h5 a35 (zx x29)) : Int32).toInt64)) rfl rfl ⟨by decide, by decide, by decide⟩ zcd_X3_emit rfl ⟨zw_812, zw_813, zw_814, zw_72⟩ ⟨Nat.le_of_ble_eq_true rfl, Nat.le_of_ble_eq_true rfl⟩ rfl (Nat.le_of_ble_eq_true rfl) (eX3_roll 90 rfl) (fun h6 => ?_)
      refine zr_iinc (ls2 := [some (.ref a0, 3), some (.ref a21, 8), none, none, some (.int (x24 + 1), 0), some (.int x29, 0), none, none]) (eX3_roll 91 rfl) rfl (Nat.le_of_ble_eq_true rfl) zk_iconst_1 rfl ?_
      refine zr_goto (eX3_roll 92 rfl) (t := 118) (by decide) ?_
      exact v_drop [true, true, false, false, true, false, false, false] rfl (hk25 (x24 + 1) h6)
  intro k36 hk36
  refine v_drop [true, true, true, true, true, false, false, false] rfl ?_
  refine zlp_ind (fun (k38 : Int32 → Zh → Option (Zh)) => ∀ (x37 : Int32) (h7 : Zh), V l mX3_roll (zN h) (zS h) 0 zoV 15 [some (.ref a0, 3), some (.ref a21, 8), some (va_rf r2, 0), some (.int x3, 0), some (.int x37, 0), none, none, none] [] h7 (k38 x37 h7)) ?_ ?_ 0 h2
  · exact fun _ _ => v_none
  intro k38 hk38 x37 h7
  unfold gX3_roll_L5
  refine zr_iload (eX3_roll 8 rfl) rfl ?_
  refine zr_aload_n (r := (some a21)) (eX3_roll 9 rfl) rfl rfl ?_
  refine zr_invV_i (as := []) (cX8_count_ok l h7 a21) rfl rfl ⟨by decide, by decide, by decide⟩ zcd_X8_count rfl ⟨zw_808, zw_809, zw_810, zw_60⟩ ⟨Nat.le_of_ble_eq_true rfl, Nat.le_of_ble_eq_true rfl⟩ rfl (Nat.le_of_ble_eq_true rfl) (eX3_roll 10 rfl) (fun x39 => ?_)
  refine zr_icmp_ge (eX3_roll 11 rfl) (t := 107) (by decide) ?_ ?_
  · exact v_drop [true, true, false, false, false, false, false, false] rfl (hk36 h7)
  · refine zr_aload_n (r := (some a21)) (eX3_roll 12 rfl) rfl rfl ?_
    refine zr_getR2 zf_RX3_75 (τ2 := 20) rfl (eX3_roll 13 rfl) ?_
    refine v_letr (fun r40 => ?_)
    refine zr_iload (eX3_roll 14 rfl) rfl ?_
    refine v_nn (fun a41 ea41 => ?_)
    subst ea41
    refine zr_iald (eX3_roll 15 rfl) ?_
    refine zr_bipush (eX3_roll 16 rfl) zk_bipush_8 ?_
    refine zr_ishr (eX3_roll 17 rfl) ?_
    refine v_leti (fun x42 => ?_)
    refine zr_istore (ls2 := [some (.ref a0, 3), some (.ref a21, 8), some (va_rf r2, 0), some (.int x3, 0), some (.int x37, 0), some (.int x42, 0), none, none]) (eX3_roll 18 rfl) (Nat.le_of_ble_eq_true rfl) rfl ?_
    refine zr_aload_n (r := (some a21)) (eX3_roll 19 rfl) rfl rfl ?_
    refine zr_getR2 zf_RX3_75 (τ2 := 20) rfl (eX3_roll 20 rfl) ?_
    refine v_letr (fun r43 => ?_)
    refine zr_iload (eX3_roll 21 rfl) rfl ?_
    refine v_nn (fun a44 ea44 => ?_)
    subst ea44
    refine zr_iald (eX3_roll 22 rfl) ?_
    refine zr_sipush (eX3_roll 23 rfl) zk_sipush_255 ?_
    refine zr_iand (eX3_roll 24 rfl) ?_
    refine v_leti (fun x45 => ?_)
    refine zr_istore (ls2 := [some (.ref a0, 3), some (.ref a21, 8), some (va_rf r2, 0), some (.int x3, 0), some (.int x37, 0), some (.int x42, 0), some (.int x45, 0), none]) (eX3_roll 25 rfl) (Nat.le_of_ble_eq_true rfl) rfl ?_
    refine zr_iconst (eX3_roll 26 rfl) zk_iconst_0 ?_
    refine zr_istore (ls2 := [some (.ref a0, 3), some (.ref a21, 8), some (va_rf r2, 0), some (.int x3, 0), some (.int x37, 0), some (.int x42, 0), some (.int x45, 0), some (.int 0, 0)]) (eX3_roll 27 rfl) (Nat.le_of_ble_eq_true rfl) rfl ?_
    refine v_jn (fun (k50 : Int32 → Int32 → Option (Zh)) => ∀ (x46 : Int32) (x47 : Int32), V l mX3_roll (zN h) (zS h) 0 zoV 80 [some (.ref a0, 3), some (.ref a21, 8), some (va_rf r2, 0), some (.int x3, 0), some (.int x37, 0), some (.int x46, 0), some (.int x47, 0), none] [] h7 (k50 x46 x47)) ?_ ?_
    · intro x46 x47
      unfold gX3_roll_J3
      refine zr_aload_n (r := (some a0)) (eX3_roll 41 rfl) rfl rfl ?_
      refine zr_getR2 zf_RX3_24 (τ2 := 20) rfl (eX3_roll 42 rfl) ?_
      refine v_letr (fun r48 => ?_)
      refine zr_iload (eX3_roll 43 rfl) rfl ?_
      refine zr_iload (eX3_roll 44 rfl) rfl ?_
      refine zr_bipush (eX3_roll 45 rfl) zk_bipush_8 ?_
      refine zr_ishl (eX3_roll 46 rfl) ?_
      refine zr_iload (eX3_roll 47 rfl) rfl ?_
      refine zr_ior (eX3_roll 48 rfl) ?_
      refine zr_bipush (eX3_roll 49 rfl) zk_bipush_12 ?_
      refine zr_ishl (eX3_roll 50 rfl) ?_
      refine zr_iload (eX3_roll 51 rfl) rfl ?_
      refine zr_ior (eX3_roll 52 rfl) ?_
      refine v_nn (fun a49 ea49 => ?_)
      subst ea49
      refine zr_iast (eX3_roll 53 rfl) ?_
      refine v_leth (fun h8 => ?_)
      refine zr_iinc (ls2 := [some (.ref a0, 3), some (.ref a21, 8), some (va_rf r2, 0), some (.int x3, 0), some (.int (x37 + 1), 0), some (.int x46, 0), some (.int x47, 0), none]) (eX3_roll 54 rfl) rfl (Nat.le_of_ble_eq_true rfl) zk_iconst_1 rfl ?_
      refine zr_goto (eX3_roll 55 rfl) (t := 15) (by decide) ?_
      exact v_drop [true, true, true, true, true, false, false, false] rfl (hk38 (x37 + 1) h8)
    intro k50 hk50
    refine v_drop [true, true, true, true, true, true, true, true] rfl ?_
    refine zlp_ind (fun (k54 : Int32 → Int32 → Int32 → Option (Zh)) => ∀ (x51 : Int32) (x52 : Int32) (x53 : Int32), V l mX3_roll (zN h) (zS h) 0 zoV 52 [some (.ref a0, 3), some (.ref a21, 8), some (va_rf r2, 0), some (.int x3, 0), some (.int x37, 0), some (.int x51, 0), some (.int x52, 0), some (.int x53, 0)] [] h7 (k54 x51 x52 x53)) ?_ ?_ x42 x45 0
    · exact fun _ _ _ => v_none
    intro k54 hk54 x51 x52 x53
    unfold gX3_roll_L4
    refine zr_iload (eX3_roll 28 rfl) rfl ?_
    refine zr_iload_n (eX3_roll 29 rfl) rfl rfl ?_
    refine zr_icmp_ge (eX3_roll 30 rfl) (t := 80) (by decide) ?_ ?_
    · exact v_drop [true, true, true, true, true, true, true, false] rfl (hk50 x51 x52)
    · refine zr_aload_n (r := r2) (eX3_roll 31 rfl) rfl rfl ?_
      refine zr_iload (eX3_roll 32 rfl) rfl ?_
      refine v_nn (fun a55 ea55 => ?_)
      subst ea55
      refine zr_invV_i (as := [(.int x51, 0)]) (cX0_onward_ok l h7 a55 x51) rfl rfl ⟨by decide, by decide, by decide⟩ zcd_X0_onward rfl ⟨zw_917, zw_248, zw_249, zw_59⟩ ⟨Nat.le_of_ble_eq_true rfl, Nat.le_of_ble_eq_true rfl⟩ rfl (Nat.le_of_ble_eq_true rfl) (eX3_roll 33 rfl) (fun x56 => ?_)
      refine zr_istore (ls2 := [some (.ref a0, 3), some (.ref a21, 8), some (.ref a55, 0), some (.int x3, 0), some (.int x37, 0), some (.int x56, 0), some (.int x52, 0), some (.int x53, 0)]) (eX3_roll 34 rfl) (Nat.le_of_ble_eq_true rfl) rfl ?_
      refine zr_aload_n (r := (some a55)) (eX3_roll 35 rfl) rfl rfl ?_
      refine zr_iload (eX3_roll 36 rfl) rfl ?_
      refine zr_invV_i (as := [(.int x52, 0)]) (cX0_onward_ok l h7 a55 x52) rfl rfl ⟨by decide, by decide, by decide⟩ zcd_X0_onward rfl ⟨zw_917, zw_248, zw_249, zw_59⟩ ⟨Nat.le_of_ble_eq_true rfl, Nat.le_of_ble_eq_true rfl⟩ rfl (Nat.le_of_ble_eq_true rfl) (eX3_roll 37 rfl) (fun x57 => ?_)
      refine zr_istore (ls2 := [some (.ref a0, 3), some (.ref a21, 8), some (.ref a55, 0), some (.int x3, 0), some (.int x37, 0), some (.int x56, 0), some (.int x57, 0), some (.int x53, 0)]) (eX3_roll 38 rfl) (Nat.le_of_ble_eq_true rfl) rfl ?_
      refine zr_iinc (ls2 := [some (.ref a0, 3), some (.ref a21, 8), some (.ref a55, 0), some (.int x3, 0), some (.int x37, 0), some (.int x56, 0), some (.int x57, 0), some (.int (x53 + 1), 0)]) (eX3_roll 39 rfl) rfl (Nat.le_of_ble_eq_true rfl) zk_iconst_1 rfl ?_
      refine zr_goto (eX3_roll 40 rfl) (t := 52) (by decide) ?_
      exact v_drop [true, true, true, true, true, true, true, true] rfl (hk54 x56 x57 (x53 + 1))
def gX3_changePlaces (x0 : Int32) (x1 : Int32) : Option (Int32) :=
  zbi (gJ6_bitCount_0f7a4 (((x0 >>> ((8 : Int32) &&& 31)) &&& x1) &&& 255)) (fun x21 => zbi (gJ6_bitCount_0f7a4 (((x1 >>> ((8 : Int32) &&& 31)) &&& x0) &&& 255)) (fun x22 => zlt (x21 + x22) (fun x23 => (if (2 : Int32) = 0 then none else (if ((x23 - x23 / 2 * 2) : Int32) = 0 then (some 1)
  else (some 0))))))
set_option maxRecDepth 20000 in
theorem cX3_changePlaces_ok (l : Launch) (h : Zh) (x0 : Int32) (x1 : Int32) : Zc l yX3_changePlaces mX3_changePlaces 0 h [(.int x0, 0), (.int x1, 0)] ((gX3_changePlaces x0 x1).map (zoi h)) := by
  refine zc_of2 (ls := [some (.int x0, 0), some (.int x1, 0), none]) (j := 1) (by decide +kernel) rfl rfl (zEn_ci (zEn_ci rfl)) (Nat.le_of_ble_eq_true rfl) rfl ?_
  unfold gX3_changePlaces
  refine zr_iload_n (eX3_changePlaces 0 rfl) rfl rfl ?_
  refine zr_bipush (eX3_changePlaces 1 rfl) zk_bipush_8 ?_
  refine zr_ishr (eX3_changePlaces 2 rfl) ?_
  refine zr_iload_n (eX3_changePlaces 3 rfl) rfl rfl ?_
  refine zr_iand (eX3_changePlaces 4 rfl) ?_
  refine zr_sipush (eX3_changePlaces 5 rfl) zk_sipush_255 ?_
  refine zr_iand (eX3_changePlaces 6 rfl) ?_
  refine zr_invS_i (as := [(.int (((x0 >>> ((8 : Int32) &&& 31)) &&& x1) &&& 255), 0)]) (cJ6_bitCount_0f7a4_ok l h (((x0 >>> ((8 : Int32) &&& 31)) &&& x1) &&& 255)) rfl zcd_J6_bitCount_0f7a4 ⟨zw_882, zw_252, zw_63⟩ ⟨Nat.le_of_ble_eq_true rfl, Nat.le_of_ble_eq_true rfl⟩ rfl (Nat.le_of_ble_eq_true rfl) (eX3_changePlaces 7 rfl) (fun x21 => ?_)
  refine zr_iload_n (eX3_changePlaces 8 rfl) rfl rfl ?_
  refine zr_bipush (eX3_changePlaces 9 rfl) zk_bipush_8 ?_
  refine zr_ishr (eX3_changePlaces 10 rfl) ?_
  refine zr_iload_n (eX3_changePlaces 11 rfl) rfl rfl ?_
  refine zr_iand (eX3_changePlaces 12 rfl) ?_
  refine zr_sipush (eX3_changePlaces 13 rfl) zk_sipush_255 ?_
  refine zr_iand (eX3_changePlaces 14 rfl) ?_
  refine zr_invS_i (as := [(.int (((x1 >>> ((8 : Int32) &&& 31)) &&& x0) &&& 255), 0)]) (cJ6_bitCount_0f7a4_ok l h (((x1 >>> ((8 : Int32) &&& 31)) &&& x0) &&& 255)) rfl zcd_J6_bitCount_0f7a4 ⟨zw_882, zw_252, zw_63⟩ ⟨Nat.le_of_ble_eq_true rfl, Nat.le_of_ble_eq_true rfl⟩ rfl (Nat.le_of_ble_eq_true rfl) (eX3_changePlaces 15 rfl) (fun x22 => ?_)
  refine zr_iadd (eX3_changePlaces 16 rfl) ?_
  refine v_leti (fun x23 => ?_)
  refine zr_istore_n (ls2 := [some (.int x0, 0), some (.int x1, 0), some (.int x23, 0)]) (eX3_changePlaces 17 rfl) rfl (Nat.le_of_ble_eq_true rfl) rfl ?_
  refine zr_iload_n (eX3_changePlaces 18 rfl) rfl rfl ?_
  refine zr_iconst (eX3_changePlaces 19 rfl) zk_iconst_2 ?_
  refine zr_irem (eX3_changePlaces 20 rfl) ?_
  refine zr_if_ne (eX3_changePlaces 21 rfl) (t := 38) (by decide) ?_ ?_
  · refine zr_iconst (eX3_changePlaces 24 rfl) zk_iconst_0 ?_
    exact zr_zret rfl (by decide) rfl (eX3_changePlaces 25 rfl)
  · refine zr_iconst (eX3_changePlaces 22 rfl) zk_iconst_1 ?_
    refine zr_goto (eX3_changePlaces 23 rfl) (t := 39) (by decide) ?_
    exact zr_zret rfl (by decide) rfl (eX3_changePlaces 25 rfl)
def gX3_countY (x0 : Int32) : Option (Int32) :=
  zbi (gJ6_bitCount_0f7a4 (((x0 >>> ((8 : Int32) &&& 31)) &&& x0) &&& 255)) (fun x21 => (some x21))
set_option maxRecDepth 20000 in
theorem cX3_countY_ok (l : Launch) (h : Zh) (x0 : Int32) : Zc l yX3_countY mX3_countY 0 h [(.int x0, 0)] ((gX3_countY x0).map (zoi h)) := by
  refine zc_of2 (ls := [some (.int x0, 0)]) (j := 0) (by decide +kernel) rfl rfl (zEn_ci rfl) (Nat.le_of_ble_eq_true rfl) rfl ?_
  unfold gX3_countY
  refine zr_iload_n (eX3_countY 0 rfl) rfl rfl ?_
  refine zr_bipush (eX3_countY 1 rfl) zk_bipush_8 ?_
  refine zr_ishr (eX3_countY 2 rfl) ?_
  refine zr_iload_n (eX3_countY 3 rfl) rfl rfl ?_
  refine zr_iand (eX3_countY 4 rfl) ?_
  refine zr_sipush (eX3_countY 5 rfl) zk_sipush_255 ?_
  refine zr_iand (eX3_countY 6 rfl) ?_
  refine zr_invS_i (as := [(.int (((x0 >>> ((8 : Int32) &&& 31)) &&& x0) &&& 255), 0)]) (cJ6_bitCount_0f7a4_ok l h (((x0 >>> ((8 : Int32) &&& 31)) &&& x0) &&& 255)) rfl zcd_J6_bitCount_0f7a4 ⟨zw_882, zw_252, zw_63⟩ ⟨Nat.le_of_ble_eq_true rfl, Nat.le_of_ble_eq_true rfl⟩ rfl (Nat.le_of_ble_eq_true rfl) (eX3_countY 7 rfl) (fun x21 => ?_)
  exact zr_iret rfl rfl (eX3_countY 8 rfl)
def gX3_quarterTurns (x0 : Int32) (x1 : Int32) : Option (Int32) :=
  zbi (gJ6_bitCount_0f7a4 ((x0 &&& 255) &&& (x1 >>> ((8 : Int32) &&& 31)))) (fun x21 => zbi (gX3_countY x0) (fun x22 => zbi (gX3_countY x1) (fun x23 => zbi (gX3_countY (x0 ^^^ x1)) (fun x24 => (some ((((x22 + x23) + (2 * x21)) - x24) &&& 3))))))
set_option maxRecDepth 20000 in
theorem cX3_quarterTurns_ok (l : Launch) (h : Zh) (x0 : Int32) (x1 : Int32) : Zc l yX3_quarterTurns mX3_quarterTurns 0 h [(.int x0, 0), (.int x1, 0)] ((gX3_quarterTurns x0 x1).map (zoi h)) := by
  refine zc_of2 (ls := [some (.int x0, 0), some (.int x1, 0), none]) (j := 1) (by decide +kernel) rfl rfl (zEn_ci (zEn_ci rfl)) (Nat.le_of_ble_eq_true rfl) rfl ?_
  unfold gX3_quarterTurns
  refine zr_iload_n (eX3_quarterTurns 0 rfl) rfl rfl ?_
  refine zr_sipush (eX3_quarterTurns 1 rfl) zk_sipush_255 ?_
  refine zr_iand (eX3_quarterTurns 2 rfl) ?_
  refine zr_iload_n (eX3_quarterTurns 3 rfl) rfl rfl ?_
  refine zr_bipush (eX3_quarterTurns 4 rfl) zk_bipush_8 ?_
  refine zr_ishr (eX3_quarterTurns 5 rfl) ?_
  refine zr_iand (eX3_quarterTurns 6 rfl) ?_
  refine zr_invS_i (as := [(.int ((x0 &&& 255) &&& (x1 >>> ((8 : Int32) &&& 31))), 0)]) (cJ6_bitCount_0f7a4_ok l h ((x0 &&& 255) &&& (x1 >>> ((8 : Int32) &&& 31)))) rfl zcd_J6_bitCount_0f7a4 ⟨zw_882, zw_252, zw_63⟩ ⟨Nat.le_of_ble_eq_true rfl, Nat.le_of_ble_eq_true rfl⟩ rfl (Nat.le_of_ble_eq_true rfl) (eX3_quarterTurns 7 rfl) (fun x21 => ?_)
  refine zr_istore_n (ls2 := [some (.int x0, 0), some (.int x1, 0), some (.int x21, 0)]) (eX3_quarterTurns 8 rfl) rfl (Nat.le_of_ble_eq_true rfl) rfl ?_
  refine zr_iload_n (eX3_quarterTurns 9 rfl) rfl rfl ?_
  refine zr_invS_i (as := [(.int x0, 0)]) (cX3_countY_ok l h x0) rfl zcd_X3_countY ⟨zw_901, zw_902, zw_72⟩ ⟨Nat.le_of_ble_eq_true rfl, Nat.le_of_ble_eq_true rfl⟩ rfl (Nat.le_of_ble_eq_true rfl) (eX3_quarterTurns 10 rfl) (fun x22 => ?_)
  refine zr_iload_n (eX3_quarterTurns 11 rfl) rfl rfl ?_
  refine zr_invS_i (as := [(.int x1, 0)]) (cX3_countY_ok l h x1) rfl zcd_X3_countY ⟨zw_901, zw_902, zw_72⟩ ⟨Nat.le_of_ble_eq_true rfl, Nat.le_of_ble_eq_true rfl⟩ rfl (Nat.le_of_ble_eq_true rfl) (eX3_quarterTurns 12 rfl) (fun x23 => ?_)
  refine zr_iadd (eX3_quarterTurns 13 rfl) ?_
  refine zr_iconst (eX3_quarterTurns 14 rfl) zk_iconst_2 ?_
  refine zr_iload_n (eX3_quarterTurns 15 rfl) rfl rfl ?_
  refine zr_imul (eX3_quarterTurns 16 rfl) ?_
  refine zr_iadd (eX3_quarterTurns 17 rfl) ?_
  refine zr_iload_n (eX3_quarterTurns 18 rfl) rfl rfl ?_
  refine zr_iload_n (eX3_quarterTurns 19 rfl) rfl rfl ?_
  refine zr_ixor (eX3_quarterTurns 20 rfl) ?_
  refine zr_invS_i (as := [(.int (x0 ^^^ x1), 0)]) (cX3_countY_ok l h (x0 ^^^ x1)) rfl zcd_X3_countY ⟨zw_901, zw_902, zw_72⟩ ⟨Nat.le_of_ble_eq_true rfl, Nat.le_of_ble_eq_true rfl⟩ rfl (Nat.le_of_ble_eq_true rfl) (eX3_quarterTurns 21 rfl) (fun x24 => ?_)
  refine zr_isub (eX3_quarterTurns 22 rfl) ?_
  refine zr_iconst (eX3_quarterTurns 23 rfl) zk_iconst_3 ?_
  refine zr_iand (eX3_quarterTurns 24 rfl) ?_
  exact zr_iret rfl rfl (eX3_quarterTurns 25 rfl)
def gX3_addProduct (h : Zh) (a0 : Nat) (r1 : Option Nat) (x2 : Int32) (r3 : Option Nat) (x4 : Int32) : Option (Zh) :=
  Option.bind r1 (fun a21 => zlt (zR h a21 1) (fun r22 => Option.bind r22 (fun a23 => zg (zin x2 (zL h a23)) (Option.bind r3 (fun a24 => zlt (zR h a24 1) (fun r25 => Option.bind r25 (fun a26 => zg (zin x4 (zL h a26)) (zlt (zR h a21 2) (fun r27 => Option.bind r27 (fun a28 => zg (zin x2 (zL h a28)) (zlt (zR h a24 2) (fun r29 => Option.bind r29 (fun a30 => zg (zin x4 (zL h a30)) (zlt (((((zI h a23 (zx x2)) : Int32).toInt64) * (((zI h a26 (zx x4)) : Int32).toInt64)) - ((((zI h a28 (zx x2)) : Int32).toInt64) * (((zI h a30 (zx x4)) : Int32).toInt64))) (fun x31 => zlt (zR h a21 1) (fun r32 => Option.bind r32 (fun a33 => zg (zin x2 (zL h a33)) (zlt (zR h a24 2) (fun r34 => Option.bind r34 (fun a35 => zg (zin x4 (zL h a35)) (zlt (zR h a21 2) (fun r36 => Option.bind r36 (fun a37 => zg (zin x2 (zL h a37)) (zlt (zR h a24 1) (fun r38 => Option.bind r38 (fun a39 => zg (zin x4 (zL h a39)) (zlt (((((zI h a33 (zx x2)) : Int32).toInt64) * (((zI h a35 (zx x4)) : Int32).toInt64)) + ((((zI h a37 (zx x2)) : Int32).toInt64) * (((zI h a39 (zx x4)) : Int32).toInt64))) (fun x40 => zlt (zR h a21 0) (fun r41 => Option.bind r41 (fun a42 => zg (zin x2 (zL h a42)) (zlt (zR h a24 0) (fun r43 => Option.bind r43 (fun a44 => zg (zin x4 (zL h a44)) (zbi (gX3_quarterTurns (zI h a42 (zx x2)) (zI h a44 (zx x4))) (fun x45 => (if (x45 : Int32) = 0 then zlt (zsJ h a0 8 ((zJ h a0 8) + x31)) (fun (h1 : Zh) => zlt (zsJ h1 a0 9 ((zJ h1 a0 9) + x40)) (fun (h2 : Zh) => some h2))
  else (if (x45 : Int32) = 1 then zlt (zsJ h a0 8 ((zJ h a0 8) - x40)) (fun (h3 : Zh) => zlt (zsJ h3 a0 9 ((zJ h3 a0 9) + x31)) (fun (h4 : Zh) => some h4))
  else (if (x45 : Int32) = 2 then zlt (zsJ h a0 8 ((zJ h a0 8) - x31)) (fun (h5 : Zh) => zlt (zsJ h5 a0 9 ((zJ h5 a0 9) - x40)) (fun (h6 : Zh) => some h6))
  else zlt (zsJ h a0 8 ((zJ h a0 8) + x40)) (fun (h7 : Zh) => zlt (zsJ h7 a0 9 ((zJ h7 a0 9) - x31)) (fun (h8 : Zh) => some h8))))))))))))))))))))))))))))))))))))))))
set_option maxRecDepth 20000 in
theorem cX3_addProduct_ok (l : Launch) (h : Zh) (a0 : Nat) (r1 : Option Nat) (x2 : Int32) (r3 : Option Nat) (x4 : Int32) : Zc l yX3_addProduct mX3_addProduct 0 h [(.ref a0, 3), (va_rf r1, 8), (.int x2, 0), (va_rf r3, 8), (.int x4, 0)] ((gX3_addProduct h a0 r1 x2 r3 x4).map zoV) := by
  refine zc_of2 (ls := [some (.ref a0, 3), some (va_rf r1, 8), some (.int x2, 0), some (va_rf r3, 8), some (.int x4, 0), none, none, none, none]) (j := 4) (by decide +kernel) rfl rfl (zEn_ca (zEn_cr (zEn_ci (zEn_cr (zEn_ci rfl))))) (Nat.le_of_ble_eq_true rfl) rfl ?_
  unfold gX3_addProduct
  refine zr_aload_n (r := r1) (eX3_addProduct 0 rfl) rfl rfl ?_
  refine v_nn (fun a21 ea21 => ?_)
  subst ea21
  refine zr_getR2 zf_RX3_76 (τ2 := 20) rfl (eX3_addProduct 1 rfl) ?_
  refine v_letr (fun r22 => ?_)
  refine zr_iload_n (eX3_addProduct 2 rfl) rfl rfl ?_
  refine v_nn (fun a23 ea23 => ?_)
  subst ea23
  refine zr_iald (eX3_addProduct 3 rfl) ?_
  refine zr_i2l (eX3_addProduct 4 rfl) ?_
  refine zr_aload_n (r := r3) (eX3_addProduct 5 rfl) rfl rfl ?_
  refine v_nn (fun a24 ea24 => ?_)
  subst ea24
  refine zr_getR2 zf_RX3_76 (τ2 := 20) rfl (eX3_addProduct 6 rfl) ?_
  refine v_letr (fun r25 => ?_)
  refine zr_iload (eX3_addProduct 7 rfl) rfl ?_
  refine v_nn (fun a26 ea26 => ?_)
  subst ea26
  refine zr_iald (eX3_addProduct 8 rfl) ?_
  refine zr_i2l (eX3_addProduct 9 rfl) ?_
  refine zr_lmul (eX3_addProduct 10 rfl) ?_
  refine zr_aload_n (r := (some a21)) (eX3_addProduct 11 rfl) rfl rfl ?_
  refine zr_getR2 zf_RX3_77 (τ2 := 20) rfl (eX3_addProduct 12 rfl) ?_
  refine v_letr (fun r27 => ?_)
  refine zr_iload_n (eX3_addProduct 13 rfl) rfl rfl ?_
  refine v_nn (fun a28 ea28 => ?_)
  subst ea28
  refine zr_iald (eX3_addProduct 14 rfl) ?_
  refine zr_i2l (eX3_addProduct 15 rfl) ?_
  refine zr_aload_n (r := (some a24)) (eX3_addProduct 16 rfl) rfl rfl ?_
  refine zr_getR2 zf_RX3_77 (τ2 := 20) rfl (eX3_addProduct 17 rfl) ?_
  refine v_letr (fun r29 => ?_)
  refine zr_iload (eX3_addProduct 18 rfl) rfl ?_
  refine v_nn (fun a30 ea30 => ?_)
  subst ea30
  refine zr_iald (eX3_addProduct 19 rfl) ?_
  refine zr_i2l (eX3_addProduct 20 rfl) ?_
  refine zr_lmul (eX3_addProduct 21 rfl) ?_
  refine zr_lsub (eX3_addProduct 22 rfl) ?_
  refine v_letj (fun x31 => ?_)
  refine zr_lstore (ls2 := [some (.ref a0, 3), some (.ref a21, 8), some (.int x2, 0), some (.ref a24, 8), some (.int x4, 0), some (.long x31, 0), none, none, none]) (eX3_addProduct 23 rfl) (Nat.le_of_ble_eq_true rfl) rfl ?_
  refine zr_aload_n (r := (some a21)) (eX3_addProduct 24 rfl) rfl rfl ?_
  refine zr_getR2 zf_RX3_76 (τ2 := 20) rfl (eX3_addProduct 25 rfl) ?_
  refine v_letr (fun r32 => ?_)
  refine zr_iload_n (eX3_addProduct 26 rfl) rfl rfl ?_
  refine v_nn (fun a33 ea33 => ?_)
  subst ea33
  refine zr_iald (eX3_addProduct 27 rfl) ?_
  refine zr_i2l (eX3_addProduct 28 rfl) ?_
  refine zr_aload_n (r := (some a24)) (eX3_addProduct 29 rfl) rfl rfl ?_
  refine zr_getR2 zf_RX3_77 (τ2 := 20) rfl (eX3_addProduct 30 rfl) ?_
  refine v_letr (fun r34 => ?_)
  refine zr_iload (eX3_addProduct 31 rfl) rfl ?_
  refine v_nn (fun a35 ea35 => ?_)
  subst ea35
  refine zr_iald (eX3_addProduct 32 rfl) ?_
  refine zr_i2l (eX3_addProduct 33 rfl) ?_
  refine zr_lmul (eX3_addProduct 34 rfl) ?_
  refine zr_aload_n (r := (some a21)) (eX3_addProduct 35 rfl) rfl rfl ?_
  refine zr_getR2 zf_RX3_77 (τ2 := 20) rfl (eX3_addProduct 36 rfl) ?_
  refine v_letr (fun r36 => ?_)
  refine zr_iload_n (eX3_addProduct 37 rfl) rfl rfl ?_
  refine v_nn (fun a37 ea37 => ?_)
  subst ea37
  refine zr_iald (eX3_addProduct 38 rfl) ?_
  refine zr_i2l (eX3_addProduct 39 rfl) ?_
  refine zr_aload_n (r := (some a24)) (eX3_addProduct 40 rfl) rfl rfl ?_
  refine zr_getR2 zf_RX3_76 (τ2 := 20) rfl (eX3_addProduct 41 rfl) ?_
  refine v_letr (fun r38 => ?_)
  refine zr_iload (eX3_addProduct 42 rfl) rfl ?_
  refine v_nn (fun a39 ea39 => ?_)
  subst ea39
  refine zr_iald (eX3_addProduct 43 rfl) ?_
  refine zr_i2l (eX3_addProduct 44 rfl) ?_
  refine zr_lmul (eX3_addProduct 45 rfl) ?_
  refine zr_ladd (eX3_addProduct 46 rfl) ?_
  refine v_letj (fun x40 => ?_)
  refine zr_lstore (ls2 := [some (.ref a0, 3), some (.ref a21, 8), some (.int x2, 0), some (.ref a24, 8), some (.int x4, 0), some (.long x31, 0), none, some (.long x40, 0), none]) (eX3_addProduct 47 rfl) (Nat.le_of_ble_eq_true rfl) rfl ?_
  refine zr_aload_n (r := (some a21)) (eX3_addProduct 48 rfl) rfl rfl ?_
  refine zr_getR2 zf_RX3_75 (τ2 := 20) rfl (eX3_addProduct 49 rfl) ?_
  refine v_letr (fun r41 => ?_)
  refine zr_iload_n (eX3_addProduct 50 rfl) rfl rfl ?_
  refine v_nn (fun a42 ea42 => ?_)
  subst ea42
  refine zr_iald (eX3_addProduct 51 rfl) ?_
  refine zr_aload_n (r := (some a24)) (eX3_addProduct 52 rfl) rfl rfl ?_
  refine zr_getR2 zf_RX3_75 (τ2 := 20) rfl (eX3_addProduct 53 rfl) ?_
  refine v_letr (fun r43 => ?_)
  refine zr_iload (eX3_addProduct 54 rfl) rfl ?_
  refine v_nn (fun a44 ea44 => ?_)
  subst ea44
  refine zr_iald (eX3_addProduct 55 rfl) ?_
  refine zr_invS_i (as := [(.int (zI h a42 (zx x2)), 0), (.int (zI h a44 (zx x4)), 0)]) (cX3_quarterTurns_ok l h (zI h a42 (zx x2)) (zI h a44 (zx x4))) rfl zcd_X3_quarterTurns ⟨zw_898, zw_899, zw_72⟩ ⟨Nat.le_of_ble_eq_true rfl, Nat.le_of_ble_eq_true rfl⟩ rfl (Nat.le_of_ble_eq_true rfl) (eX3_addProduct 56 rfl) (fun x45 => ?_)
  refine zr_tab (c := 0) (t := 112) (off := 26) (eX3_addProduct 57 rfl) (by decide) (by decide) ?_ (fun q0 => ?_)
  · refine zr_aload_n (r := (some a0)) (eX3_addProduct 58 rfl) rfl rfl ?_
    refine zr_dup (eX3_addProduct 59 rfl) rfl ?_
    refine zr_getJ zf_RX3_38 rfl (eX3_addProduct 60 rfl) ?_
    refine zr_lload (eX3_addProduct 61 rfl) rfl ?_
    refine zr_ladd (eX3_addProduct 62 rfl) ?_
    refine zr_putJ zf_RX3_38 rfl (Or.inl rfl) (eX3_addProduct 63 rfl) ?_
    refine v_leth (fun h1 => ?_)
    refine zr_aload_n (r := (some a0)) (eX3_addProduct 64 rfl) rfl rfl ?_
    refine zr_dup (eX3_addProduct 65 rfl) rfl ?_
    refine zr_getJ zf_RX3_42 rfl (eX3_addProduct 66 rfl) ?_
    refine zr_lload (eX3_addProduct 67 rfl) rfl ?_
    refine zr_ladd (eX3_addProduct 68 rfl) ?_
    refine zr_putJ zf_RX3_42 rfl (Or.inl rfl) (eX3_addProduct 69 rfl) ?_
    refine v_leth (fun h2 => ?_)
    refine zr_goto (eX3_addProduct 70 rfl) (t := 209) (by decide) ?_
    exact zr_vret rfl rfl (eX3_addProduct 109 rfl)
  refine zr_tab (c := 1) (t := 137) (off := 51) (eX3_addProduct 57 rfl) (by decide) (by decide) ?_ (fun q1 => ?_)
  · refine zr_aload_n (r := (some a0)) (eX3_addProduct 71 rfl) rfl rfl ?_
    refine zr_dup (eX3_addProduct 72 rfl) rfl ?_
    refine zr_getJ zf_RX3_38 rfl (eX3_addProduct 73 rfl) ?_
    refine zr_lload (eX3_addProduct 74 rfl) rfl ?_
    refine zr_lsub (eX3_addProduct 75 rfl) ?_
    refine zr_putJ zf_RX3_38 rfl (Or.inl rfl) (eX3_addProduct 76 rfl) ?_
    refine v_leth (fun h3 => ?_)
    refine zr_aload_n (r := (some a0)) (eX3_addProduct 77 rfl) rfl rfl ?_
    refine zr_dup (eX3_addProduct 78 rfl) rfl ?_
    refine zr_getJ zf_RX3_42 rfl (eX3_addProduct 79 rfl) ?_
    refine zr_lload (eX3_addProduct 80 rfl) rfl ?_
    refine zr_ladd (eX3_addProduct 81 rfl) ?_
    refine zr_putJ zf_RX3_42 rfl (Or.inl rfl) (eX3_addProduct 82 rfl) ?_
    refine v_leth (fun h4 => ?_)
    refine zr_goto (eX3_addProduct 83 rfl) (t := 209) (by decide) ?_
    exact zr_vret rfl rfl (eX3_addProduct 109 rfl)
  refine zr_tab (c := 2) (t := 162) (off := 76) (eX3_addProduct 57 rfl) (by decide) (by decide) ?_ (fun q2 => ?_)
  · refine zr_aload_n (r := (some a0)) (eX3_addProduct 84 rfl) rfl rfl ?_
    refine zr_dup (eX3_addProduct 85 rfl) rfl ?_
    refine zr_getJ zf_RX3_38 rfl (eX3_addProduct 86 rfl) ?_
    refine zr_lload (eX3_addProduct 87 rfl) rfl ?_
    refine zr_lsub (eX3_addProduct 88 rfl) ?_
    refine zr_putJ zf_RX3_38 rfl (Or.inl rfl) (eX3_addProduct 89 rfl) ?_
    refine v_leth (fun h5 => ?_)
    refine zr_aload_n (r := (some a0)) (eX3_addProduct 90 rfl) rfl rfl ?_
    refine zr_dup (eX3_addProduct 91 rfl) rfl ?_
    refine zr_getJ zf_RX3_42 rfl (eX3_addProduct 92 rfl) ?_
    refine zr_lload (eX3_addProduct 93 rfl) rfl ?_
    refine zr_lsub (eX3_addProduct 94 rfl) ?_
    refine zr_putJ zf_RX3_42 rfl (Or.inl rfl) (eX3_addProduct 95 rfl) ?_
    refine v_leth (fun h6 => ?_)
    refine zr_goto (eX3_addProduct 96 rfl) (t := 209) (by decide) ?_
    exact zr_vret rfl rfl (eX3_addProduct 109 rfl)
  have q0' := zne (c := 0) (n := 0) (by decide) q0
  have q1' := zne (c := 1) (n := 1) (by decide) q1
  have q2' := zne (c := 2) (n := 2) (by decide) q2
  refine zr_tabD (t := 187) (eX3_addProduct 57 rfl) (by omega) (by decide) ?_
  refine zr_aload_n (r := (some a0)) (eX3_addProduct 97 rfl) rfl rfl ?_
  refine zr_dup (eX3_addProduct 98 rfl) rfl ?_
  refine zr_getJ zf_RX3_38 rfl (eX3_addProduct 99 rfl) ?_
  refine zr_lload (eX3_addProduct 100 rfl) rfl ?_
  refine zr_ladd (eX3_addProduct 101 rfl) ?_
  refine zr_putJ zf_RX3_38 rfl (Or.inl rfl) (eX3_addProduct 102 rfl) ?_
  refine v_leth (fun h7 => ?_)
  refine zr_aload_n (r := (some a0)) (eX3_addProduct 103 rfl) rfl rfl ?_
  refine zr_dup (eX3_addProduct 104 rfl) rfl ?_
  refine zr_getJ zf_RX3_42 rfl (eX3_addProduct 105 rfl) ?_
  refine zr_lload (eX3_addProduct 106 rfl) rfl ?_
  refine zr_lsub (eX3_addProduct 107 rfl) ?_
  refine zr_putJ zf_RX3_42 rfl (Or.inl rfl) (eX3_addProduct 108 rfl) ?_
  refine v_leth (fun h8 => ?_)
  exact zr_vret rfl rfl (eX3_addProduct 109 rfl)
def gX3_multiply_J1 (x27 : Int32) (k28 : Int32 → Zh → Option (Zh)) : Zh → Option (Zh) :=
  fun (h9 : Zh) => k28 (x27 + 1) h9
def gX3_multiply_J2 (a0 : Nat) (x26 : Int64) (x31 : Int32) (h8 : Zh) (k36 : Zh → Option (Zh)) : Option (Zh) :=
  zbV (gX3_emit h8 a0 x31 (x26 * (zJ h8 a0 8)) (x26 * (zJ h8 a0 9))) (fun h10 => zlt (zsJ h10 a0 8 0) (fun (h11 : Zh) => zlt (zsJ h11 a0 9 0) (fun (h12 : Zh) => k36 h12)))
def gX3_multiply_L3 (a0 : Nat) (a21 : Nat) (a23 : Nat) (x25 : Int32) (x26 : Int64) : (Int32 → Zh → Option (Zh)) → Int32 → Zh → Option (Zh) :=
  fun (k28 : Int32 → Zh → Option (Zh)) (x27 : Int32) (h7 : Zh) => (if (x25 : Int32) ≤ x27 then some h7
  else zlt (zR h7 a0 4) (fun r29 => Option.bind r29 (fun a30 => zg (zin x27 (zL h7 a30)) (zlt ((zI h7 a30 (zx x27)) >>> ((12 : Int32) &&& 31)) (fun x31 => zlt (zR h7 a0 4) (fun r32 => Option.bind r32 (fun a33 => zg (zin x27 (zL h7 a33)) (zlt (zR h7 a0 4) (fun r34 => Option.bind r34 (fun a35 => zg (zin x27 (zL h7 a35)) (zbV (gX3_addProduct h7 a0 (some a21) (((zI h7 a33 (zx x27)) >>> ((6 : Int32) &&& 31)) &&& 63) (some a23) ((zI h7 a35 (zx x27)) &&& 63)) (fun h8 => zjn (gX3_multiply_J1 x27 k28) (fun (k36 : Zh → Option (Zh)) =>
  zjn (gX3_multiply_J2 a0 x26 x31 h8 k36) (fun (k37 : Option (Zh)) =>
  (if ((x27 + 1) : Int32) = x25 then k37
  else zlt (zR h8 a0 4) (fun r38 => Option.bind r38 (fun a39 => zg (zin (x27 + 1) (zL h8 a39)) ((if (((zI h8 a39 (zx (x27 + 1))) >>> ((12 : Int32) &&& 31)) : Int32) = x31 then k36 h8
  else k37)))))))))))))))))))
def gX3_multiply_J4 (a0 : Nat) (a21 : Nat) (a23 : Nat) (x25 : Int32) (h4 : Zh) : Int64 → Option (Zh) :=
  fun (x26 : Int64) => zlt (zsJ h4 a0 8 0) (fun (h5 : Zh) => zlt (zsJ h5 a0 9 0) (fun (h6 : Zh) => zlp (fun (_ : Int32) (_ : Zh) => (none : Option (Zh))) (gX3_multiply_L3 a0 a21 a23 x25 x26) zFU 0 h6))
def gX3_multiply_J5 (a0 : Nat) (x3 : Int32) (a21 : Nat) (a23 : Nat) : Int32 → Zh → Option (Zh) :=
  fun (x25 : Int32) (h3 : Zh) => zbV (gX3_sortPairs h3 a0 x25) (fun h4 => zjn (gX3_multiply_J4 a0 a21 a23 x25 h4) (fun (k40 : Int64 → Option (Zh)) =>
  (if (x3 : Int32) = 0 then k40 1
  else k40 2)))
def gX3_multiply_J6 (x43 : Int32) (k44 : Int32 → Int32 → Zh → Option (Zh)) : Int32 → Zh → Option (Zh) :=
  fun (x46 : Int32) (h14 : Zh) => k44 x46 (x43 + 1) h14
def gX3_multiply_J7 (x49 : Int32) (k50 : Int32 → Int32 → Zh → Option (Zh)) : Int32 → Zh → Option (Zh) :=
  fun (x52 : Int32) (h16 : Zh) => k50 x52 (x49 + 1) h16
def gX3_multiply_J8 (a0 : Nat) (a21 : Nat) (a23 : Nat) (x43 : Int32) (x48 : Int32) (x49 : Int32) (h15 : Zh) (k53 : Int32 → Zh → Option (Zh)) : Option (Zh) :=
  zlt (zR h15 a0 4) (fun r54 => zlt (zR h15 a21 0) (fun r55 => Option.bind r55 (fun a56 => zg (zin x43 (zL h15 a56)) (zlt (zR h15 a23 0) (fun r57 => Option.bind r57 (fun a58 => zg (zin x49 (zL h15 a58)) (Option.bind r54 (fun a59 => zg (zin x48 (zL h15 a59)) (zlt (zsI h15 a59 (zx x48) (((((zI h15 a56 (zx x43)) ^^^ (zI h15 a58 (zx x49))) <<< ((12 : Int32) &&& 31)) ||| (x43 <<< ((6 : Int32) &&& 31))) ||| x49)) (fun (h17 : Zh) => k53 (x48 + 1) h17))))))))))
def gX3_multiply_L9 (a0 : Nat) (x3 : Int32) (a21 : Nat) (a23 : Nat) (x43 : Int32) (k47 : Int32 → Zh → Option (Zh)) : (Int32 → Int32 → Zh → Option (Zh)) → Int32 → Int32 → Zh → Option (Zh) :=
  fun (k50 : Int32 → Int32 → Zh → Option (Zh)) (x48 : Int32) (x49 : Int32) (h15 : Zh) => zbi (gX8_count h15 a23) (fun x51 => (if (x51 : Int32) ≤ x49 then k47 x48 h15
  else zjn (gX3_multiply_J7 x49 k50) (fun (k53 : Int32 → Zh → Option (Zh)) =>
  zjn (gX3_multiply_J8 a0 a21 a23 x43 x48 x49 h15 k53) (fun (k60 : Option (Zh)) =>
  (if (x3 : Int32) = 0 then k60
  else zlt (zR h15 a21 0) (fun r61 => Option.bind r61 (fun a62 => zg (zin x43 (zL h15 a62)) (zlt (zR h15 a23 0) (fun r63 => Option.bind r63 (fun a64 => zg (zin x49 (zL h15 a64)) (zbi (gX3_changePlaces (zI h15 a62 (zx x43)) (zI h15 a64 (zx x49))) (fun x65 => (if (x65 : Int32) = 0 then k60
  else k53 x48 h15)))))))))))))
def gX3_multiply_L10 (a0 : Nat) (x3 : Int32) (a21 : Nat) (a23 : Nat) (k41 : Int32 → Zh → Option (Zh)) : (Int32 → Int32 → Zh → Option (Zh)) → Int32 → Int32 → Zh → Option (Zh) :=
  fun (k44 : Int32 → Int32 → Zh → Option (Zh)) (x42 : Int32) (x43 : Int32) (h13 : Zh) => zbi (gX8_count h13 a21) (fun x45 => (if (x45 : Int32) ≤ x43 then k41 x42 h13
  else zjn (gX3_multiply_J6 x43 k44) (fun (k47 : Int32 → Zh → Option (Zh)) =>
  zlp (fun (_ : Int32) (_ : Int32) (_ : Zh) => (none : Option (Zh))) (gX3_multiply_L9 a0 x3 a21 a23 x43 k47) zFU x42 0 h13)))
def gX3_multiply (h : Zh) (a0 : Nat) (r1 : Option Nat) (r2 : Option Nat) (x3 : Int32) : Option (Zh) :=
  zbV (gX3_begin h a0) (fun h1 => Option.bind r1 (fun a21 => zbi (gX8_count h1 a21) (fun x22 => Option.bind r2 (fun a23 => zbi (gX8_count h1 a23) (fun x24 => zbV (gX3_makeRoom h1 a0 (x22 * x24)) (fun h2 => zjn (gX3_multiply_J5 a0 x3 a21 a23) (fun (k41 : Int32 → Zh → Option (Zh)) =>
  zlp (fun (_ : Int32) (_ : Int32) (_ : Zh) => (none : Option (Zh))) (gX3_multiply_L10 a0 x3 a21 a23 k41) zFU 0 0 h2)))))))
set_option maxRecDepth 20000 in
theorem cX3_multiply_ok (l : Launch) (h : Zh) (a0 : Nat) (r1 : Option Nat) (r2 : Option Nat) (x3 : Int32) : Zc l yX3_multiply mX3_multiply 0 h [(.ref a0, 3), (va_rf r1, 8), (va_rf r2, 8), (.int x3, 0)] ((gX3_multiply h a0 r1 r2 x3).map zoV) := by
  refine zc_of2 (ls := [some (.ref a0, 3), some (va_rf r1, 8), some (va_rf r2, 8), some (.int x3, 0), none, none, none, none, none]) (j := 5) (by decide +kernel) rfl rfl (zEn_ca (zEn_cr (zEn_cr (zEn_ci rfl)))) (Nat.le_of_ble_eq_true rfl) rfl ?_
  unfold gX3_multiply
  refine zr_aload_n (r := (some a0)) (eX3_multiply 0 rfl) rfl rfl ?_
  refine zr_invV_V (as := []) (cX3_begin_ok l h a0) rfl rfl ⟨by decide, by decide, by decide⟩ zcd_X3_begin rfl ⟨zw_804, zw_805, zw_806, zw_72⟩ ⟨Nat.le_of_ble_eq_true rfl, Nat.le_of_ble_eq_true rfl⟩ rfl (Nat.le_of_ble_eq_true rfl) (eX3_multiply 1 rfl) (fun h1 => ?_)
  refine zr_aload_n (r := (some a0)) (eX3_multiply 2 rfl) rfl rfl ?_
  refine zr_aload_n (r := r1) (eX3_multiply 3 rfl) rfl rfl ?_
  refine v_nn (fun a21 ea21 => ?_)
  subst ea21
  refine zr_invV_i (as := []) (cX8_count_ok l h1 a21) rfl rfl ⟨by decide, by decide, by decide⟩ zcd_X8_count rfl ⟨zw_808, zw_809, zw_810, zw_60⟩ ⟨Nat.le_of_ble_eq_true rfl, Nat.le_of_ble_eq_true rfl⟩ rfl (Nat.le_of_ble_eq_true rfl) (eX3_multiply 4 rfl) (fun x22 => ?_)
  refine zr_aload_n (r := r2) (eX3_multiply 5 rfl) rfl rfl ?_
  refine v_nn (fun a23 ea23 => ?_)
  subst ea23
  refine zr_invV_i (as := []) (cX8_count_ok l h1 a23) rfl rfl ⟨by decide, by decide, by decide⟩ zcd_X8_count rfl ⟨zw_808, zw_809, zw_810, zw_60⟩ ⟨Nat.le_of_ble_eq_true rfl, Nat.le_of_ble_eq_true rfl⟩ rfl (Nat.le_of_ble_eq_true rfl) (eX3_multiply 6 rfl) (fun x24 => ?_)
  refine zr_imul (eX3_multiply 7 rfl) ?_
  refine zr_invV_V (as := [(.int (x22 * x24), 0)]) (cX3_makeRoom_ok l h1 a0 (x22 * x24)) rfl rfl ⟨by decide, by decide, by decide⟩ zcd_X3_makeRoom rfl ⟨zw_875, zw_876, zw_877, zw_72⟩ ⟨Nat.le_of_ble_eq_true rfl, Nat.le_of_ble_eq_true rfl⟩ rfl (Nat.le_of_ble_eq_true rfl) (eX3_multiply 8 rfl) (fun h2 => ?_)
  refine zr_iconst (eX3_multiply 9 rfl) zk_iconst_0 ?_
  refine zr_istore (ls2 := [some (.ref a0, 3), some (.ref a21, 8), some (.ref a23, 8), some (.int x3, 0), some (.int 0, 0), none, none, none, none]) (eX3_multiply 10 rfl) (Nat.le_of_ble_eq_true rfl) rfl ?_
  refine zr_iconst (eX3_multiply 11 rfl) zk_iconst_0 ?_
  refine zr_istore (ls2 := [some (.ref a0, 3), some (.ref a21, 8), some (.ref a23, 8), some (.int x3, 0), some (.int 0, 0), some (.int 0, 0), none, none, none]) (eX3_multiply 12 rfl) (Nat.le_of_ble_eq_true rfl) rfl ?_
  refine v_jn (fun (k41 : Int32 → Zh → Option (Zh)) => ∀ (x25 : Int32) (h3 : Zh), V l mX3_multiply (zN h) (zS h) 0 zoV 117 [some (.ref a0, 3), some (.ref a21, 8), some (.ref a23, 8), some (.int x3, 0), some (.int x25, 0), none, none, none, none] [] h3 (k41 x25 h3)) ?_ ?_
  · intro x25 h3
    unfold gX3_multiply_J5
    refine zr_aload_n (r := (some a0)) (eX3_multiply 61 rfl) rfl rfl ?_
    refine zr_iload (eX3_multiply 62 rfl) rfl ?_
    refine zr_invV_V (as := [(.int x25, 0)]) (cX3_sortPairs_ok l h3 a0 x25) rfl rfl ⟨by decide, by decide, by decide⟩ zcd_X3_sortPairs rfl ⟨zw_883, zw_884, zw_885, zw_72⟩ ⟨Nat.le_of_ble_eq_true rfl, Nat.le_of_ble_eq_true rfl⟩ rfl (Nat.le_of_ble_eq_true rfl) (eX3_multiply 63 rfl) (fun h4 => ?_)
    refine zr_iload_n (eX3_multiply 64 rfl) rfl rfl ?_
    refine v_jn (fun (k40 : Int64 → Option (Zh)) => ∀ (x26 : Int64), V l mX3_multiply (zN h) (zS h) 0 zoV 134 [some (.ref a0, 3), some (.ref a21, 8), some (.ref a23, 8), none, some (.int x25, 0), none, none, none, none] [(.long x26, 0)] h4 (k40 x26)) ?_ ?_
    · intro x26
      unfold gX3_multiply_J4
      refine zr_lstore (ls2 := [some (.ref a0, 3), some (.ref a21, 8), some (.ref a23, 8), none, some (.int x25, 0), some (.long x26, 0), none, none, none]) (eX3_multiply 69 rfl) (Nat.le_of_ble_eq_true rfl) rfl ?_
      refine zr_aload_n (r := (some a0)) (eX3_multiply 70 rfl) rfl rfl ?_
      refine zr_lconst (eX3_multiply 71 rfl) zk_lconst_0 ?_
      refine zr_putJ zf_RX3_38 rfl (Or.inl rfl) (eX3_multiply 72 rfl) ?_
      refine v_leth (fun h5 => ?_)
      refine zr_aload_n (r := (some a0)) (eX3_multiply 73 rfl) rfl rfl ?_
      refine zr_lconst (eX3_multiply 74 rfl) zk_lconst_0 ?_
      refine zr_putJ zf_RX3_42 rfl (Or.inl rfl) (eX3_multiply 75 rfl) ?_
      refine v_leth (fun h6 => ?_)
      refine zr_iconst (eX3_multiply 76 rfl) zk_iconst_0 ?_
      refine zr_istore (ls2 := [some (.ref a0, 3), some (.ref a21, 8), some (.ref a23, 8), none, some (.int x25, 0), some (.long x26, 0), none, some (.int 0, 0), none]) (eX3_multiply 77 rfl) (Nat.le_of_ble_eq_true rfl) rfl ?_
      refine v_drop [true, true, true, false, true, true, false, true, false] rfl ?_
      refine zlp_ind (fun (k28 : Int32 → Zh → Option (Zh)) => ∀ (x27 : Int32) (h7 : Zh), V l mX3_multiply (zN h) (zS h) 0 zoV 149 [some (.ref a0, 3), some (.ref a21, 8), some (.ref a23, 8), none, some (.int x25, 0), some (.long x26, 0), none, some (.int x27, 0), none] [] h7 (k28 x27 h7)) ?_ ?_ 0 h6
      · exact fun _ _ => v_none
      intro k28 hk28 x27 h7
      unfold gX3_multiply_L3
      refine zr_iload (eX3_multiply 78 rfl) rfl ?_
      refine zr_iload (eX3_multiply 79 rfl) rfl ?_
      refine zr_icmp_ge (eX3_multiply 80 rfl) (t := 259) (by decide) ?_ ?_
      · exact zr_vret rfl rfl (eX3_multiply 140 rfl)
      · refine zr_aload_n (r := (some a0)) (eX3_multiply 81 rfl) rfl rfl ?_
        refine zr_getR2 zf_RX3_24 (τ2 := 20) rfl (eX3_multiply 82 rfl) ?_
        refine v_letr (fun r29 => ?_)
        refine zr_iload (eX3_multiply 83 rfl) rfl ?_
        refine v_nn (fun a30 ea30 => ?_)
        subst ea30
        refine zr_iald (eX3_multiply 84 rfl) ?_
        refine zr_bipush (eX3_multiply 85 rfl) zk_bipush_12 ?_
        refine zr_ishr (eX3_multiply 86 rfl) ?_
        refine v_leti (fun x31 => ?_)
        refine zr_istore (ls2 := [some (.ref a0, 3), some (.ref a21, 8), some (.ref a23, 8), none, some (.int x25, 0), some (.long x26, 0), none, some (.int x27, 0), some (.int x31, 0)]) (eX3_multiply 87 rfl) (Nat.le_of_ble_eq_true rfl) rfl ?_
        refine zr_aload_n (r := (some a0)) (eX3_multiply 88 rfl) rfl rfl ?_
        refine zr_aload_n (r := (some a21)) (eX3_multiply 89 rfl) rfl rfl ?_
        refine zr_aload_n (r := (some a0)) (eX3_multiply 90 rfl) rfl rfl ?_
        refine zr_getR2 zf_RX3_24 (τ2 := 20) rfl (eX3_multiply 91 rfl) ?_
        refine v_letr (fun r32 => ?_)
        refine zr_iload (eX3_multiply 92 rfl) rfl ?_
        refine v_nn (fun a33 ea33 => ?_)
        subst ea33
        refine zr_iald (eX3_multiply 93 rfl) ?_
        refine zr_bipush (eX3_multiply 94 rfl) zk_bipush_6 ?_
        refine zr_ishr (eX3_multiply 95 rfl) ?_
        refine zr_bipush (eX3_multiply 96 rfl) zk_bipush_63 ?_
        refine zr_iand (eX3_multiply 97 rfl) ?_
        refine zr_aload_n (r := (some a23)) (eX3_multiply 98 rfl) rfl rfl ?_
        refine zr_aload_n (r := (some a0)) (eX3_multiply 99 rfl) rfl rfl ?_
        refine zr_getR2 zf_RX3_24 (τ2 := 20) rfl (eX3_multiply 100 rfl) ?_
        refine v_letr (fun r34 => ?_)
        refine zr_iload (eX3_multiply 101 rfl) rfl ?_
        refine v_nn (fun a35 ea35 => ?_)
        subst ea35
        refine zr_iald (eX3_multiply 102 rfl) ?_
        refine zr_bipush (eX3_multiply 103 rfl) zk_bipush_63 ?_
        refine zr_iand (eX3_multiply 104 rfl) ?_
        refine zr_invV_V (as := [(.ref a21, 8), (.int (((zI h7 a33 (zx x27)) >>> ((6 : Int32) &&& 31)) &&& 63), 0), (.ref a23, 8), (.int ((zI h7 a35 (zx x27)) &&& 63), 0)]) (cX3_addProduct_ok l h7 a0 (some a21) (((zI h7 a33 (zx x27)) >>> ((6 : Int32) &&& 31)) &&& 63) (some a23) ((zI h7 a35 (zx x27)) &&& 63)) rfl rfl ⟨by decide, by decide, by decide⟩ zcd_X3_addProduct rfl ⟨zw_894, zw_895, zw_896, zw_72⟩ ⟨Nat.le_of_ble_eq_true rfl, Nat.le_of_ble_eq_true rfl⟩ rfl (Nat.le_of_ble_eq_true rfl) (eX3_multiply 105 rfl) (fun h8 => ?_)
        refine zr_iload (eX3_multiply 106 rfl) rfl ?_
        refine zr_iconst (eX3_multiply 107 rfl) zk_iconst_1 ?_
        refine zr_iadd (eX3_multiply 108 rfl) ?_
        refine zr_iload (eX3_multiply 109 rfl) rfl ?_
        refine v_jn (fun (k36 : Zh → Option (Zh)) => ∀ (h9 : Zh), V l mX3_multiply (zN h) (zS h) 0 zoV 253 [some (.ref a0, 3), some (.ref a21, 8), some (.ref a23, 8), none, some (.int x25, 0), some (.long x26, 0), none, some (.int x27, 0), none] [] h9 (k36 h9)) ?_ ?_
        · intro h9
          unfold gX3_multiply_J1
          refine zr_iinc (ls2 := [some (.ref a0, 3), some (.ref a21, 8), some (.ref a23, 8), none, some (.int x25, 0), some (.long x26, 0), none, some (.int (x27 + 1), 0), none]) (eX3_multiply 138 rfl) rfl (Nat.le_of_ble_eq_true rfl) zk_iconst_1 rfl ?_
          refine zr_goto (eX3_multiply 139 rfl) (t := 149) (by decide) ?_
          exact v_drop [true, true, true, false, true, true, false, true, false] rfl (hk28 (x27 + 1) h9)
        intro k36 hk36
        refine v_jn (fun (k37 : Option (Zh)) => V l mX3_multiply (zN h) (zS h) 0 zoV 223 [some (.ref a0, 3), some (.ref a21, 8), some (.ref a23, 8), none, some (.int x25, 0), some (.long x26, 0), none, some (.int x27, 0), some (.int x31, 0)] [] h8 k37) ?_ ?_
        · skip
          unfold gX3_multiply_J2
          refine zr_aload_n (r := (some a0)) (eX3_multiply 121 rfl) rfl rfl ?_
          refine zr_iload (eX3_multiply 122 rfl) rfl ?_
          refine zr_lload (eX3_multiply 123 rfl) rfl ?_
          refine zr_aload_n (r := (some a0)) (eX3_multiply 124 rfl) rfl rfl ?_
          refine zr_getJ zf_RX3_38 rfl (eX3_multiply 125 rfl) ?_
          refine zr_lmul (eX3_multiply 126 rfl) ?_
          refine zr_lload (eX3_multiply 127 rfl) rfl ?_
          refine zr_aload_n (r := (some a0)) (eX3_multiply 128 rfl) rfl rfl ?_
          refine zr_getJ zf_RX3_42 rfl (eX3_multiply 129 rfl) ?_
          refine zr_lmul (eX3_multiply 130 rfl) ?_
          refine zr_invV_V (as := [(.int x31, 0), (.long (x26 * (zJ h8 a0 8)), 0), (.long (x26 * (zJ h8 a0 9)), 0)]) (cX3_emit_ok l h8 a0 x31 (x26 * (zJ h8 a0 8)) (x26 * (zJ h8 a0 9))) rfl rfl ⟨by decide, by decide, by decide⟩ zcd_X3_emit rfl ⟨zw_812, zw_813, zw_814, zw_72⟩ ⟨Nat.le_of_ble_eq_true rfl, Nat.le_of_ble_eq_true rfl⟩ rfl (Nat.le_of_ble_eq_true rfl) (eX3_multiply 131 rfl) (fun h10 => ?_)
          refine zr_aload_n (r := (some a0)) (eX3_multiply 132 rfl) rfl rfl ?_
          refine zr_lconst (eX3_multiply 133 rfl) zk_lconst_0 ?_
          refine zr_putJ zf_RX3_38 rfl (Or.inl rfl) (eX3_multiply 134 rfl) ?_
          refine v_leth (fun h11 => ?_)
          refine zr_aload_n (r := (some a0)) (eX3_multiply 135 rfl) rfl rfl ?_
          refine zr_lconst (eX3_multiply 136 rfl) zk_lconst_0 ?_
          refine zr_putJ zf_RX3_42 rfl (Or.inl rfl) (eX3_multiply 137 rfl) ?_
          refine v_leth (fun h12 => ?_)
          exact v_drop [true, true, true, false, true, true, false, true, false] rfl (hk36 h12)
        intro k37 hk37
        refine zr_icmp_eq (eX3_multiply 110 rfl) (t := 223) (by decide) ?_ ?_
        · exact v_drop [true, true, true, false, true, true, false, true, true] rfl (hk37)
        · refine zr_aload_n (r := (some a0)) (eX3_multiply 111 rfl) rfl rfl ?_
          refine zr_getR2 zf_RX3_24 (τ2 := 20) rfl (eX3_multiply 112 rfl) ?_
          refine v_letr (fun r38 => ?_)
          refine zr_iload (eX3_multiply 113 rfl) rfl ?_
          refine zr_iconst (eX3_multiply 114 rfl) zk_iconst_1 ?_
          refine zr_iadd (eX3_multiply 115 rfl) ?_
          refine v_nn (fun a39 ea39 => ?_)
          subst ea39
          refine zr_iald (eX3_multiply 116 rfl) ?_
          refine zr_bipush (eX3_multiply 117 rfl) zk_bipush_12 ?_
          refine zr_ishr (eX3_multiply 118 rfl) ?_
          refine zr_iload (eX3_multiply 119 rfl) rfl ?_
          refine zr_icmp_eq (eX3_multiply 120 rfl) (t := 253) (by decide) ?_ ?_
          · exact v_drop [true, true, true, false, true, true, false, true, false] rfl (hk36 h8)
          · exact v_drop [true, true, true, false, true, true, false, true, true] rfl (hk37)
    intro k40 hk40
    refine zr_if_eq (eX3_multiply 65 rfl) (t := 133) (by decide) ?_ ?_
    · refine zr_lconst (eX3_multiply 68 rfl) zk_lconst_1 ?_
      exact v_drop [true, true, true, false, true, false, false, false, false] rfl (hk40 1)
    · refine zr_ldc2 (eX3_multiply 66 rfl) zw_865 ?_
      refine zr_goto (eX3_multiply 67 rfl) (t := 134) (by decide) ?_
      exact v_drop [true, true, true, false, true, false, false, false, false] rfl (hk40 2)
  intro k41 hk41
  refine v_drop [true, true, true, true, true, true, false, false, false] rfl ?_
  refine zlp_ind (fun (k44 : Int32 → Int32 → Zh → Option (Zh)) => ∀ (x42 : Int32) (x43 : Int32) (h13 : Zh), V l mX3_multiply (zN h) (zS h) 0 zoV 23 [some (.ref a0, 3), some (.ref a21, 8), some (.ref a23, 8), some (.int x3, 0), some (.int x42, 0), some (.int x43, 0), none, none, none] [] h13 (k44 x42 x43 h13)) ?_ ?_ 0 0 h2
  · exact fun _ _ _ => v_none
  intro k44 hk44 x42 x43 h13
  unfold gX3_multiply_L10
  refine zr_iload (eX3_multiply 13 rfl) rfl ?_
  refine zr_aload_n (r := (some a21)) (eX3_multiply 14 rfl) rfl rfl ?_
  refine zr_invV_i (as := []) (cX8_count_ok l h13 a21) rfl rfl ⟨by decide, by decide, by decide⟩ zcd_X8_count rfl ⟨zw_808, zw_809, zw_810, zw_60⟩ ⟨Nat.le_of_ble_eq_true rfl, Nat.le_of_ble_eq_true rfl⟩ rfl (Nat.le_of_ble_eq_true rfl) (eX3_multiply 15 rfl) (fun x45 => ?_)
  refine zr_icmp_ge (eX3_multiply 16 rfl) (t := 117) (by decide) ?_ ?_
  · exact v_drop [true, true, true, true, true, false, false, false, false] rfl (hk41 x42 h13)
  · refine zr_iconst (eX3_multiply 17 rfl) zk_iconst_0 ?_
    refine zr_istore (ls2 := [some (.ref a0, 3), some (.ref a21, 8), some (.ref a23, 8), some (.int x3, 0), some (.int x42, 0), some (.int x43, 0), some (.int 0, 0), none, none]) (eX3_multiply 18 rfl) (Nat.le_of_ble_eq_true rfl) rfl ?_
    refine v_jn (fun (k47 : Int32 → Zh → Option (Zh)) => ∀ (x46 : Int32) (h14 : Zh), V l mX3_multiply (zN h) (zS h) 0 zoV 111 [some (.ref a0, 3), some (.ref a21, 8), some (.ref a23, 8), some (.int x3, 0), some (.int x46, 0), some (.int x43, 0), none, none, none] [] h14 (k47 x46 h14)) ?_ ?_
    · intro x46 h14
      unfold gX3_multiply_J6
      refine zr_iinc (ls2 := [some (.ref a0, 3), some (.ref a21, 8), some (.ref a23, 8), some (.int x3, 0), some (.int x46, 0), some (.int (x43 + 1), 0), none, none, none]) (eX3_multiply 59 rfl) rfl (Nat.le_of_ble_eq_true rfl) zk_iconst_1 rfl ?_
      refine zr_goto (eX3_multiply 60 rfl) (t := 23) (by decide) ?_
      exact v_drop [true, true, true, true, true, true, false, false, false] rfl (hk44 x46 (x43 + 1) h14)
    intro k47 hk47
    refine v_drop [true, true, true, true, true, true, true, false, false] rfl ?_
    refine zlp_ind (fun (k50 : Int32 → Int32 → Zh → Option (Zh)) => ∀ (x48 : Int32) (x49 : Int32) (h15 : Zh), V l mX3_multiply (zN h) (zS h) 0 zoV 35 [some (.ref a0, 3), some (.ref a21, 8), some (.ref a23, 8), some (.int x3, 0), some (.int x48, 0), some (.int x43, 0), some (.int x49, 0), none, none] [] h15 (k50 x48 x49 h15)) ?_ ?_ x42 0 h13
    · exact fun _ _ _ => v_none
    intro k50 hk50 x48 x49 h15
    unfold gX3_multiply_L9
    refine zr_iload (eX3_multiply 19 rfl) rfl ?_
    refine zr_aload_n (r := (some a23)) (eX3_multiply 20 rfl) rfl rfl ?_
    refine zr_invV_i (as := []) (cX8_count_ok l h15 a23) rfl rfl ⟨by decide, by decide, by decide⟩ zcd_X8_count rfl ⟨zw_808, zw_809, zw_810, zw_60⟩ ⟨Nat.le_of_ble_eq_true rfl, Nat.le_of_ble_eq_true rfl⟩ rfl (Nat.le_of_ble_eq_true rfl) (eX3_multiply 21 rfl) (fun x51 => ?_)
    refine zr_icmp_ge (eX3_multiply 22 rfl) (t := 111) (by decide) ?_ ?_
    · exact v_drop [true, true, true, true, true, true, false, false, false] rfl (hk47 x48 h15)
    · refine zr_iload_n (eX3_multiply 23 rfl) rfl rfl ?_
      refine v_jn (fun (k53 : Int32 → Zh → Option (Zh)) => ∀ (x52 : Int32) (h16 : Zh), V l mX3_multiply (zN h) (zS h) 0 zoV 105 [some (.ref a0, 3), some (.ref a21, 8), some (.ref a23, 8), some (.int x3, 0), some (.int x52, 0), some (.int x43, 0), some (.int x49, 0), none, none] [] h16 (k53 x52 h16)) ?_ ?_
      · intro x52 h16
        unfold gX3_multiply_J7
        refine zr_iinc (ls2 := [some (.ref a0, 3), some (.ref a21, 8), some (.ref a23, 8), some (.int x3, 0), some (.int x52, 0), some (.int x43, 0), some (.int (x49 + 1), 0), none, none]) (eX3_multiply 57 rfl) rfl (Nat.le_of_ble_eq_true rfl) zk_iconst_1 rfl ?_
        refine zr_goto (eX3_multiply 58 rfl) (t := 35) (by decide) ?_
        exact v_drop [true, true, true, true, true, true, true, false, false] rfl (hk50 x52 (x49 + 1) h16)
      intro k53 hk53
      refine v_jn (fun (k60 : Option (Zh)) => V l mX3_multiply (zN h) (zS h) 0 zoV 68 [some (.ref a0, 3), some (.ref a21, 8), some (.ref a23, 8), some (.int x3, 0), some (.int x48, 0), some (.int x43, 0), some (.int x49, 0), none, none] [] h15 k60) ?_ ?_
      · skip
        unfold gX3_multiply_J8
        refine zr_aload_n (r := (some a0)) (eX3_multiply 35 rfl) rfl rfl ?_
        refine zr_getR2 zf_RX3_24 (τ2 := 20) rfl (eX3_multiply 36 rfl) ?_
        refine v_letr (fun r54 => ?_)
        refine zr_iload (eX3_multiply 37 rfl) rfl ?_
        refine zr_aload_n (r := (some a21)) (eX3_multiply 38 rfl) rfl rfl ?_
        refine zr_getR2 zf_RX3_75 (τ2 := 20) rfl (eX3_multiply 39 rfl) ?_
        refine v_letr (fun r55 => ?_)
        refine zr_iload (eX3_multiply 40 rfl) rfl ?_
        refine v_nn (fun a56 ea56 => ?_)
        subst ea56
        refine zr_iald (eX3_multiply 41 rfl) ?_
        refine zr_aload_n (r := (some a23)) (eX3_multiply 42 rfl) rfl rfl ?_
        refine zr_getR2 zf_RX3_75 (τ2 := 20) rfl (eX3_multiply 43 rfl) ?_
        refine v_letr (fun r57 => ?_)
        refine zr_iload (eX3_multiply 44 rfl) rfl ?_
        refine v_nn (fun a58 ea58 => ?_)
        subst ea58
        refine zr_iald (eX3_multiply 45 rfl) ?_
        refine zr_ixor (eX3_multiply 46 rfl) ?_
        refine zr_bipush (eX3_multiply 47 rfl) zk_bipush_12 ?_
        refine zr_ishl (eX3_multiply 48 rfl) ?_
        refine zr_iload (eX3_multiply 49 rfl) rfl ?_
        refine zr_bipush (eX3_multiply 50 rfl) zk_bipush_6 ?_
        refine zr_ishl (eX3_multiply 51 rfl) ?_
        refine zr_ior (eX3_multiply 52 rfl) ?_
        refine zr_iload (eX3_multiply 53 rfl) rfl ?_
        refine zr_ior (eX3_multiply 54 rfl) ?_
        refine v_nn (fun a59 ea59 => ?_)
        subst ea59
        refine zr_iast (eX3_multiply 55 rfl) ?_
        refine v_leth (fun h17 => ?_)
        refine zr_iinc (ls2 := [some (.ref a0, 3), some (.ref a21, 8), some (.ref a23, 8), some (.int x3, 0), some (.int (x48 + 1), 0), some (.int x43, 0), some (.int x49, 0), none, none]) (eX3_multiply 56 rfl) rfl (Nat.le_of_ble_eq_true rfl) zk_iconst_1 rfl ?_
        exact v_drop [true, true, true, true, true, true, true, false, false] rfl (hk53 (x48 + 1) h17)
      intro k60 hk60
      refine zr_if_eq (eX3_multiply 24 rfl) (t := 68) (by decide) ?_ ?_
      · exact v_drop [true, true, true, true, true, true, true, false, false] rfl (hk60)
      · refine zr_aload_n (r := (some a21)) (eX3_multiply 25 rfl) rfl rfl ?_
        refine zr_getR2 zf_RX3_75 (τ2 := 20) rfl (eX3_multiply 26 rfl) ?_
        refine v_letr (fun r61 => ?_)
        refine zr_iload (eX3_multiply 27 rfl) rfl ?_
        refine v_nn (fun a62 ea62 => ?_)
        subst ea62
        refine zr_iald (eX3_multiply 28 rfl) ?_
        refine zr_aload_n (r := (some a23)) (eX3_multiply 29 rfl) rfl rfl ?_
        refine zr_getR2 zf_RX3_75 (τ2 := 20) rfl (eX3_multiply 30 rfl) ?_
        refine v_letr (fun r63 => ?_)
        refine zr_iload (eX3_multiply 31 rfl) rfl ?_
        refine v_nn (fun a64 ea64 => ?_)
        subst ea64
        refine zr_iald (eX3_multiply 32 rfl) ?_
        refine zr_invS_i (as := [(.int (zI h15 a62 (zx x43)), 0), (.int (zI h15 a64 (zx x49)), 0)]) (cX3_changePlaces_ok l h15 (zI h15 a62 (zx x43)) (zI h15 a64 (zx x49))) rfl zcd_X3_changePlaces ⟨zw_879, zw_880, zw_72⟩ ⟨Nat.le_of_ble_eq_true rfl, Nat.le_of_ble_eq_true rfl⟩ rfl (Nat.le_of_ble_eq_true rfl) (eX3_multiply 33 rfl) (fun x65 => ?_)
        refine zr_if_ne (eX3_multiply 34 rfl) (t := 105) (by decide) ?_ ?_
        · exact v_drop [true, true, true, true, true, true, true, false, false] rfl (hk53 x48 h15)
        · exact v_drop [true, true, true, true, true, true, true, false, false] rfl (hk60)
def gX4_init (h : Zh) (a0 : Nat) (x1 : Int32) (x2 : Int32) (x3 : Int32) (x4 : Int32) : Option (Zh) :=
  zlt (zsI h a0 0 x1) (fun (h1 : Zh) => zlt (zsI h1 a0 1 x2) (fun (h2 : Zh) => zlt (zsI h2 a0 2 x3) (fun (h3 : Zh) => zlt (zsI h3 a0 3 x4) (fun (h4 : Zh) => some h4))))
set_option maxRecDepth 20000 in
theorem cX4_init_ok (l : Launch) (h : Zh) (a0 : Nat) (x1 : Int32) (x2 : Int32) (x3 : Int32) (x4 : Int32) : Zc l yX4_init mX4_init 0 h [(.ref a0, 4), (.int x1, 0), (.int x2, 0), (.int x3, 0), (.int x4, 0)] ((gX4_init h a0 x1 x2 x3 x4).map zoV) := by
  refine zc_of2 (ls := [some (.ref a0, 4), some (.int x1, 0), some (.int x2, 0), some (.int x3, 0), some (.int x4, 0)]) (j := 0) (by decide +kernel) rfl rfl (zEn_ca (zEn_ci (zEn_ci (zEn_ci (zEn_ci rfl))))) (Nat.le_of_ble_eq_true rfl) rfl ?_
  unfold gX4_init
  refine zr_aload_n (r := (some a0)) (eX4_init 0 rfl) rfl rfl ?_
  refine zr_objI ⟨zw_534, zw_80, zw_81⟩ ⟨Nat.le_of_ble_eq_true rfl, Nat.le_of_ble_eq_true rfl⟩ (Nat.le_of_ble_eq_true rfl) (eX4_init 1 rfl) ?_
  refine zr_aload_n (r := (some a0)) (eX4_init 2 rfl) rfl rfl ?_
  refine zr_iload_n (eX4_init 3 rfl) rfl rfl ?_
  refine zr_putI zf_RX4_7 rfl (Or.inr ⟨rfl, rfl⟩) (eX4_init 4 rfl) ?_
  refine v_leth (fun h1 => ?_)
  refine zr_aload_n (r := (some a0)) (eX4_init 5 rfl) rfl rfl ?_
  refine zr_iload_n (eX4_init 6 rfl) rfl rfl ?_
  refine zr_putI zf_RX4_13 rfl (Or.inr ⟨rfl, rfl⟩) (eX4_init 7 rfl) ?_
  refine v_leth (fun h2 => ?_)
  refine zr_aload_n (r := (some a0)) (eX4_init 8 rfl) rfl rfl ?_
  refine zr_iload_n (eX4_init 9 rfl) rfl rfl ?_
  refine zr_putI zf_RX4_16 rfl (Or.inr ⟨rfl, rfl⟩) (eX4_init 10 rfl) ?_
  refine v_leth (fun h3 => ?_)
  refine zr_aload_n (r := (some a0)) (eX4_init 11 rfl) rfl rfl ?_
  refine zr_iload (eX4_init 12 rfl) rfl ?_
  refine zr_putI zf_RX4_19 rfl (Or.inr ⟨rfl, rfl⟩) (eX4_init 13 rfl) ?_
  refine v_leth (fun h4 => ?_)
  exact zr_vret rfl rfl (eX4_init 14 rfl)
def gX4_kind (a0 : Nat) : Option (Int32) :=
  (some 0)
set_option maxRecDepth 20000 in
theorem cX4_kind_ok (l : Launch) (h : Zh) (a0 : Nat) : Zc l yX4_kind mX4_kind 0 h [(.ref a0, 4)] ((gX4_kind a0).map (zoi h)) := by
  refine zc_of2 (ls := [some (.ref a0, 4)]) (j := 0) (by decide +kernel) rfl rfl (zEn_ca rfl) (Nat.le_of_ble_eq_true rfl) rfl ?_
  unfold gX4_kind
  refine zr_iconst (eX4_kind 0 rfl) zk_iconst_0 ?_
  exact zr_iret rfl rfl (eX4_kind 1 rfl)
def gX9_leave (h : Zh) (a0 : Nat) (x1 : Int32) : Option (Zh) :=
  zlt (zsI h a0 0 ((31 * (zI h a0 0)) + x1)) (fun (h1 : Zh) => some h1)
set_option maxRecDepth 20000 in
theorem cX9_leave_ok (l : Launch) (h : Zh) (a0 : Nat) (x1 : Int32) : Zc l yX9_leave mX9_leave 0 h [(.ref a0, 9), (.int x1, 0)] ((gX9_leave h a0 x1).map zoV) := by
  refine zc_of2 (ls := [some (.ref a0, 9), some (.int x1, 0)]) (j := 0) (by decide +kernel) rfl rfl (zEn_ca (zEn_ci rfl)) (Nat.le_of_ble_eq_true rfl) rfl ?_
  unfold gX9_leave
  refine zr_aload_n (r := (some a0)) (eX9_leave 0 rfl) rfl rfl ?_
  refine zr_bipush (eX9_leave 1 rfl) zk_bipush_31 ?_
  refine zr_aload_n (r := (some a0)) (eX9_leave 2 rfl) rfl rfl ?_
  refine zr_getI zf_RX9_7 ⟨by decide, by decide⟩ (eX9_leave 3 rfl) ?_
  refine zr_imul (eX9_leave 4 rfl) ?_
  refine zr_iload_n (eX9_leave 5 rfl) rfl rfl ?_
  refine zr_iadd (eX9_leave 6 rfl) ?_
  refine zr_putI zf_RX9_7 rfl (Or.inl rfl) (eX9_leave 7 rfl) ?_
  refine v_leth (fun h1 => ?_)
  exact zr_vret rfl rfl (eX9_leave 8 rfl)
def gX4_plainTelling (h : Zh) (a0 : Nat) (r1 : Option Nat) : Option (Int32 × Zh) :=
  Option.bind r1 (fun a21 => zbV (gX9_leave h a21 1) (fun h1 => (some ((zI h1 a0 1), h1))))
set_option maxRecDepth 20000 in
theorem cX4_plainTelling_ok (l : Launch) (h : Zh) (a0 : Nat) (r1 : Option Nat) : Zc l yX4_plainTelling mX4_plainTelling 0 h [(.ref a0, 4), (va_rf r1, 9)] ((gX4_plainTelling h a0 r1).map zoI) := by
  refine zc_of2 (ls := [some (.ref a0, 4), some (va_rf r1, 9)]) (j := 0) (by decide +kernel) rfl rfl (zEn_ca (zEn_cr rfl)) (Nat.le_of_ble_eq_true rfl) rfl ?_
  unfold gX4_plainTelling
  refine zr_aload_n (r := r1) (eX4_plainTelling 0 rfl) rfl rfl ?_
  refine zr_iconst (eX4_plainTelling 1 rfl) zk_iconst_1 ?_
  refine v_nn (fun a21 ea21 => ?_)
  subst ea21
  refine zr_invV_V (as := [(.int 1, 0)]) (cX9_leave_ok l h a21 1) rfl rfl ⟨by decide, by decide, by decide⟩ zcd_X9_leave rfl ⟨zw_1019, zw_1005, zw_1006, zw_61⟩ ⟨Nat.le_of_ble_eq_true rfl, Nat.le_of_ble_eq_true rfl⟩ rfl (Nat.le_of_ble_eq_true rfl) (eX4_plainTelling 2 rfl) (fun h1 => ?_)
  refine zr_aload_n (r := (some a0)) (eX4_plainTelling 3 rfl) rfl rfl ?_
  refine zr_getI zf_RX4_13 ⟨by decide, by decide⟩ (eX4_plainTelling 4 rfl) ?_
  exact zr_iret rfl rfl (eX4_plainTelling 5 rfl)
def gX4_telling_J1 : Int32 → Zh → Option (Int32 × Zh) :=
  fun (x21 : Int32) (h1 : Zh) => (some (x21, h1))
def gX4_telling (h : Zh) (a0 : Nat) (r1 : Option Nat) : Option (Int32 × Zh) :=
  zjn gX4_telling_J1 (fun (k22 : Int32 → Zh → Option (Int32 × Zh)) =>
  zdp h a0 (zbI (gX4_plainTelling h a0 r1) (fun b hb => k22 b hb)) (zbI (gX4_plainTelling h a0 r1) (fun b hb => k22 b hb)) (zbI (gX4_plainTelling h a0 r1) (fun b hb => k22 b hb)))
set_option maxRecDepth 20000 in
theorem cX4_telling_ok (l : Launch) (h : Zh) (a0 : Nat) (r1 : Option Nat) : Zc l yX4_telling mX4_telling 0 h [(.ref a0, 4), (va_rf r1, 9)] ((gX4_telling h a0 r1).map zoI) := by
  refine zc_of2 (ls := [some (.ref a0, 4), some (va_rf r1, 9)]) (j := 0) (by decide +kernel) rfl rfl (zEn_ca (zEn_cr rfl)) (Nat.le_of_ble_eq_true rfl) rfl ?_
  unfold gX4_telling
  refine zr_aload_n (r := (some a0)) (eX4_telling 0 rfl) rfl rfl ?_
  refine zr_aload_n (r := r1) (eX4_telling 1 rfl) rfl rfl ?_
  refine v_jn (fun (k22 : Int32 → Zh → Option (Int32 × Zh)) => ∀ (x21 : Int32) (h1 : Zh), V l mX4_telling (zN h) (zS h) 0 zoI 5 [some (.ref a0, 4), some (va_rf r1, 9)] [(.int x21, 0)] h1 (k22 x21 h1)) ?_ ?_
  · intro x21 h1
    unfold gX4_telling_J1
    exact zr_iret rfl rfl (eX4_telling 3 rfl)
  intro k22 hk22
  refine zr_dsp (fun qk => ?_) (fun qk => ?_) (fun qk => ?_)
  · exact zr_invU_I (x := yX4_plainTelling) (owner := RX4) (n := 1) (as := [(va_rf r1, 9)]) qk (cX4_plainTelling_ok l h a0 r1) rfl rfl (by decide) zw_1018 ⟨by decide, by decide, by decide +kernel⟩ ⟨zw_1022, zw_1606, zw_1017, zw_1607, zw_1017, zw_68⟩ zw_1018 ⟨Nat.le_of_ble_eq_true rfl, Nat.le_of_ble_eq_true rfl⟩ rfl (Nat.le_of_ble_eq_true rfl) (eX4_telling 2 rfl) (fun b hb => hk22 b hb)
  · exact zr_invU_I (x := yX4_plainTelling) (owner := RX4) (n := 1) (as := [(va_rf r1, 9)]) qk (cX4_plainTelling_ok l h a0 r1) rfl rfl (by decide) zw_1018 ⟨by decide, by decide, by decide +kernel⟩ ⟨zw_1022, zw_1606, zw_1017, zw_1609, zw_1017, zw_68⟩ zw_1018 ⟨Nat.le_of_ble_eq_true rfl, Nat.le_of_ble_eq_true rfl⟩ rfl (Nat.le_of_ble_eq_true rfl) (eX4_telling 2 rfl) (fun b hb => hk22 b hb)
  · exact zr_invU_I (x := yX4_plainTelling) (owner := RX4) (n := 1) (as := [(va_rf r1, 9)]) qk (cX4_plainTelling_ok l h a0 r1) rfl rfl (by decide) zw_1018 ⟨by decide, by decide, by decide +kernel⟩ ⟨zw_1022, zw_1606, zw_1017, zw_1608, zw_1017, zw_68⟩ zw_1018 ⟨Nat.le_of_ble_eq_true rfl, Nat.le_of_ble_eq_true rfl⟩ rfl (Nat.le_of_ble_eq_true rfl) (eX4_telling 2 rfl) (fun b hb => hk22 b hb)
def gX4_naming (h : Zh) (a0 : Nat) (r1 : Option Nat) : Option (Int32 × Zh) :=
  Option.bind r1 (fun a21 => zbV (gX9_leave h a21 4) (fun h1 => (some ((zI h1 a0 0), h1))))
set_option maxRecDepth 20000 in
theorem cX4_naming_ok (l : Launch) (h : Zh) (a0 : Nat) (r1 : Option Nat) : Zc l yX4_naming mX4_naming 0 h [(.ref a0, 4), (va_rf r1, 9)] ((gX4_naming h a0 r1).map zoI) := by
  refine zc_of2 (ls := [some (.ref a0, 4), some (va_rf r1, 9)]) (j := 0) (by decide +kernel) rfl rfl (zEn_ca (zEn_cr rfl)) (Nat.le_of_ble_eq_true rfl) rfl ?_
  unfold gX4_naming
  refine zr_aload_n (r := r1) (eX4_naming 0 rfl) rfl rfl ?_
  refine zr_iconst (eX4_naming 1 rfl) zk_iconst_4 ?_
  refine v_nn (fun a21 ea21 => ?_)
  subst ea21
  refine zr_invV_V (as := [(.int 4, 0)]) (cX9_leave_ok l h a21 4) rfl rfl ⟨by decide, by decide, by decide⟩ zcd_X9_leave rfl ⟨zw_1019, zw_1005, zw_1006, zw_61⟩ ⟨Nat.le_of_ble_eq_true rfl, Nat.le_of_ble_eq_true rfl⟩ rfl (Nat.le_of_ble_eq_true rfl) (eX4_naming 2 rfl) (fun h1 => ?_)
  refine zr_aload_n (r := (some a0)) (eX4_naming 3 rfl) rfl rfl ?_
  refine zr_getI zf_RX4_7 ⟨by decide, by decide⟩ (eX4_naming 4 rfl) ?_
  exact zr_iret rfl rfl (eX4_naming 5 rfl)
def gX5_init (h : Zh) (a0 : Nat) : Option (Zh) :=
  zg (zok 38) (zlt (zN h) (fun a21 => zlt (zA h 20 (zx 38)) (fun (h1 : Zh) => zlt (zsR h1 a0 0 (some a21)) (fun (h2 : Zh) => zg (zok 70) (zlt (zN h2) (fun a22 => zlt (zA h2 20 (zx 70)) (fun (h3 : Zh) => zlt (zsR h3 a0 1 (some a22)) (fun (h4 : Zh) => zg (zok 100) (zlt (zN h4) (fun a23 => zlt (zA h4 21 (zx 100)) (fun (h5 : Zh) => zlt (zsR h5 a0 2 (some a23)) (fun (h6 : Zh) => zg (zok 11) (zlt (zN h6) (fun a24 => zlt (zA h6 21 (zx 11)) (fun (h7 : Zh) => zlt (zsR h7 a0 3 (some a24)) (fun (h8 : Zh) => zg (zok 11) (zlt (zN h8) (fun a25 => zlt (zA h8 21 (zx 11)) (fun (h9 : Zh) => zlt (zsR h9 a0 4 (some a25)) (fun (h10 : Zh) => zg (zok 10) (zlt (zN h10) (fun a26 => zlt (zA h10 21 (zx 10)) (fun (h11 : Zh) => zlt (zsR h11 a0 5 (some a26)) (fun (h12 : Zh) => zg (zok 11) (zlt (zN h12) (fun a27 => zlt (zA h12 21 (zx 11)) (fun (h13 : Zh) => zlt (zsR h13 a0 6 (some a27)) (fun (h14 : Zh) => zg (zok 11) (zlt (zN h14) (fun a28 => zlt (zA h14 21 (zx 11)) (fun (h15 : Zh) => zlt (zsR h15 a0 7 (some a28)) (fun (h16 : Zh) => zlt (zsR h16 a0 8 none) (fun (h17 : Zh) => zlt (zsR h17 a0 9 none) (fun (h18 : Zh) => zlt (zsR h18 a0 10 none) (fun (h19 : Zh) => zlt (zsI h19 a0 11 0) (fun (h20 : Zh) => zlt (zsI h20 a0 12 0) (fun (h21 : Zh) => zlt (zsI h21 a0 13 0) (fun (h22 : Zh) => zlt (zsI h22 a0 14 0) (fun (h23 : Zh) => zlt (zsI h23 a0 15 0) (fun (h24 : Zh) => zlt (zsI h24 a0 16 0) (fun (h25 : Zh) => zlt (zsI h25 a0 17 0) (fun (h26 : Zh) => some h26))))))))))))))))))))))))))))))))))))))))))
set_option maxRecDepth 20000 in
theorem cX5_init_ok (l : Launch) (h : Zh) (a0 : Nat) : Zc l yX5_init mX5_init 0 h [(.ref a0, 5)] ((gX5_init h a0).map zoV) := by
  refine zc_of2 (ls := [some (.ref a0, 5)]) (j := 0) (by decide +kernel) rfl rfl (zEn_ca rfl) (Nat.le_of_ble_eq_true rfl) rfl ?_
  unfold gX5_init
  refine zr_aload_n (r := (some a0)) (eX5_init 0 rfl) rfl rfl ?_
  refine zr_objI ⟨zw_294, zw_80, zw_81⟩ ⟨Nat.le_of_ble_eq_true rfl, Nat.le_of_ble_eq_true rfl⟩ (Nat.le_of_ble_eq_true rfl) (eX5_init 1 rfl) ?_
  refine zr_aload_n (r := (some a0)) (eX5_init 2 rfl) rfl rfl ?_
  refine zr_bipush (eX5_init 3 rfl) zk_bipush_38 ?_
  refine zr_newi zw_154 (eX5_init 4 rfl) ?_
  refine zr_leta (fun a21 => ?_)
  refine v_leth (fun h1 => ?_)
  refine zr_putR (x := (some a21)) zf_RX5_9 (by decide) (fun _ h => h) (Or.inr ⟨rfl, rfl⟩) (eX5_init 5 rfl) ?_
  refine v_leth (fun h2 => ?_)
  refine zr_aload_n (r := (some a0)) (eX5_init 6 rfl) rfl rfl ?_
  refine zr_bipush (eX5_init 7 rfl) zk_bipush_70 ?_
  refine zr_newi zw_154 (eX5_init 8 rfl) ?_
  refine zr_leta (fun a22 => ?_)
  refine v_leth (fun h3 => ?_)
  refine zr_putR (x := (some a22)) zf_RX5_15 (by decide) (fun _ h => h) (Or.inr ⟨rfl, rfl⟩) (eX5_init 9 rfl) ?_
  refine v_leth (fun h4 => ?_)
  refine zr_aload_n (r := (some a0)) (eX5_init 10 rfl) rfl rfl ?_
  refine zr_bipush (eX5_init 11 rfl) zk_bipush_100 ?_
  refine zr_newj zw_355 (eX5_init 12 rfl) ?_
  refine zr_leta (fun a23 => ?_)
  refine v_leth (fun h5 => ?_)
  refine zr_putR (x := (some a23)) zf_RX5_18 (by decide) (fun _ h => h) (Or.inr ⟨rfl, rfl⟩) (eX5_init 13 rfl) ?_
  refine v_leth (fun h6 => ?_)
  refine zr_aload_n (r := (some a0)) (eX5_init 14 rfl) rfl rfl ?_
  refine zr_bipush (eX5_init 15 rfl) zk_bipush_11 ?_
  refine zr_newj zw_355 (eX5_init 16 rfl) ?_
  refine zr_leta (fun a24 => ?_)
  refine v_leth (fun h7 => ?_)
  refine zr_putR (x := (some a24)) zf_RX5_22 (by decide) (fun _ h => h) (Or.inr ⟨rfl, rfl⟩) (eX5_init 17 rfl) ?_
  refine v_leth (fun h8 => ?_)
  refine zr_aload_n (r := (some a0)) (eX5_init 18 rfl) rfl rfl ?_
  refine zr_bipush (eX5_init 19 rfl) zk_bipush_11 ?_
  refine zr_newj zw_355 (eX5_init 20 rfl) ?_
  refine zr_leta (fun a25 => ?_)
  refine v_leth (fun h9 => ?_)
  refine zr_putR (x := (some a25)) zf_RX5_25 (by decide) (fun _ h => h) (Or.inr ⟨rfl, rfl⟩) (eX5_init 21 rfl) ?_
  refine v_leth (fun h10 => ?_)
  refine zr_aload_n (r := (some a0)) (eX5_init 22 rfl) rfl rfl ?_
  refine zr_bipush (eX5_init 23 rfl) zk_bipush_10 ?_
  refine zr_newj zw_355 (eX5_init 24 rfl) ?_
  refine zr_leta (fun a26 => ?_)
  refine v_leth (fun h11 => ?_)
  refine zr_putR (x := (some a26)) zf_RX5_28 (by decide) (fun _ h => h) (Or.inr ⟨rfl, rfl⟩) (eX5_init 25 rfl) ?_
  refine v_leth (fun h12 => ?_)
  refine zr_aload_n (r := (some a0)) (eX5_init 26 rfl) rfl rfl ?_
  refine zr_bipush (eX5_init 27 rfl) zk_bipush_11 ?_
  refine zr_newj zw_355 (eX5_init 28 rfl) ?_
  refine zr_leta (fun a27 => ?_)
  refine v_leth (fun h13 => ?_)
  refine zr_putR (x := (some a27)) zf_RX5_31 (by decide) (fun _ h => h) (Or.inr ⟨rfl, rfl⟩) (eX5_init 29 rfl) ?_
  refine v_leth (fun h14 => ?_)
  refine zr_aload_n (r := (some a0)) (eX5_init 30 rfl) rfl rfl ?_
  refine zr_bipush (eX5_init 31 rfl) zk_bipush_11 ?_
  refine zr_newj zw_355 (eX5_init 32 rfl) ?_
  refine zr_leta (fun a28 => ?_)
  refine v_leth (fun h15 => ?_)
  refine zr_putR (x := (some a28)) zf_RX5_34 (by decide) (fun _ h => h) (Or.inr ⟨rfl, rfl⟩) (eX5_init 33 rfl) ?_
  refine v_leth (fun h16 => ?_)
  refine zr_aload_n (r := (some a0)) (eX5_init 34 rfl) rfl rfl ?_
  refine zr_null (a := 21) (eX5_init 35 rfl) ?_
  refine zr_putR (x := none) zf_RX5_37 (by decide) (fun _ h => h) (Or.inl rfl) (eX5_init 36 rfl) ?_
  refine v_leth (fun h17 => ?_)
  refine zr_aload_n (r := (some a0)) (eX5_init 37 rfl) rfl rfl ?_
  refine zr_null (a := 21) (eX5_init 38 rfl) ?_
  refine zr_putR (x := none) zf_RX5_40 (by decide) (fun _ h => h) (Or.inl rfl) (eX5_init 39 rfl) ?_
  refine v_leth (fun h18 => ?_)
  refine zr_aload_n (r := (some a0)) (eX5_init 40 rfl) rfl rfl ?_
  refine zr_null (a := 0) (eX5_init 41 rfl) ?_
  refine zr_putR (x := none) zf_RX5_43 (by decide) (fun _ h => h) (Or.inl rfl) (eX5_init 42 rfl) ?_
  refine v_leth (fun h19 => ?_)
  refine zr_aload_n (r := (some a0)) (eX5_init 43 rfl) rfl rfl ?_
  refine zr_iconst (eX5_init 44 rfl) zk_iconst_0 ?_
  refine zr_putI zf_RX5_47 rfl (Or.inl rfl) (eX5_init 45 rfl) ?_
  refine v_leth (fun h20 => ?_)
  refine zr_aload_n (r := (some a0)) (eX5_init 46 rfl) rfl rfl ?_
  refine zr_iconst (eX5_init 47 rfl) zk_iconst_0 ?_
  refine zr_putI zf_RX5_51 rfl (Or.inl rfl) (eX5_init 48 rfl) ?_
  refine v_leth (fun h21 => ?_)
  refine zr_aload_n (r := (some a0)) (eX5_init 49 rfl) rfl rfl ?_
  refine zr_iconst (eX5_init 50 rfl) zk_iconst_0 ?_
  refine zr_putI zf_RX5_54 rfl (Or.inl rfl) (eX5_init 51 rfl) ?_
  refine v_leth (fun h22 => ?_)
  refine zr_aload_n (r := (some a0)) (eX5_init 52 rfl) rfl rfl ?_
  refine zr_iconst (eX5_init 53 rfl) zk_iconst_0 ?_
  refine zr_putZ zf_RX5_57 rfl (by decide) (Or.inl rfl) (eX5_init 54 rfl) ?_
  refine v_leth (fun h23 => ?_)
  refine zr_aload_n (r := (some a0)) (eX5_init 55 rfl) rfl rfl ?_
  refine zr_iconst (eX5_init 56 rfl) zk_iconst_0 ?_
  refine zr_putZ zf_RX5_61 rfl (by decide) (Or.inl rfl) (eX5_init 57 rfl) ?_
  refine v_leth (fun h24 => ?_)
  refine zr_aload_n (r := (some a0)) (eX5_init 58 rfl) rfl rfl ?_
  refine zr_iconst (eX5_init 59 rfl) zk_iconst_0 ?_
  refine zr_putZ zf_RX5_64 rfl (by decide) (Or.inl rfl) (eX5_init 60 rfl) ?_
  refine v_leth (fun h25 => ?_)
  refine zr_aload_n (r := (some a0)) (eX5_init 61 rfl) rfl rfl ?_
  refine zr_iconst (eX5_init 62 rfl) zk_iconst_0 ?_
  refine zr_putI zf_RX5_67 rfl (Or.inl rfl) (eX5_init 63 rfl) ?_
  refine v_leth (fun h26 => ?_)
  exact zr_vret rfl rfl (eX5_init 64 rfl)
def gX5_orbitLength_L1 (h : Zh) (a0 : Nat) (x1 : Int32) : (Int32 → Int32 → Option (Int32)) → Int32 → Int32 → Option (Int32) :=
  fun (k26 : Int32 → Int32 → Option (Int32)) (x24 : Int32) (x25 : Int32) => (if (x24 : Int32) = x1 then (some x25)
  else (if (8 : Int32) ≤ x25 then (some x25)
  else (if (x1 : Int32) ≤ x24 then zlt (zR h a0 10) (fun r27 => Option.bind r27 (fun a28 => zbi (gX0_turn h a28 x24) (fun x29 => k26 x29 (x25 + 1))))
  else (some 0))))
def gX5_orbitLength (h : Zh) (a0 : Nat) (x1 : Int32) : Option (Int32) :=
  zlt (zR h a0 10) (fun r21 => Option.bind r21 (fun a22 => zbi (gX0_turn h a22 x1) (fun x23 => zlp (fun (_ : Int32) (_ : Int32) => (none : Option (Int32))) (gX5_orbitLength_L1 h a0 x1) zFU x23 1)))
set_option maxRecDepth 20000 in
theorem cX5_orbitLength_ok (l : Launch) (h : Zh) (a0 : Nat) (x1 : Int32) : Zc l yX5_orbitLength mX5_orbitLength 0 h [(.ref a0, 5), (.int x1, 0)] ((gX5_orbitLength h a0 x1).map (zoi h)) := by
  refine zc_of2 (ls := [some (.ref a0, 5), some (.int x1, 0), none, none]) (j := 2) (by decide +kernel) rfl rfl (zEn_ca (zEn_ci rfl)) (Nat.le_of_ble_eq_true rfl) rfl ?_
  unfold gX5_orbitLength
  refine zr_aload_n (r := (some a0)) (eX5_orbitLength 0 rfl) rfl rfl ?_
  refine zr_getR2 zf_RX5_43 (τ2 := 0) rfl (eX5_orbitLength 1 rfl) ?_
  refine v_letr (fun r21 => ?_)
  refine zr_iload_n (eX5_orbitLength 2 rfl) rfl rfl ?_
  refine v_nn (fun a22 ea22 => ?_)
  subst ea22
  refine zr_invV_i (as := [(.int x1, 0)]) (cX0_turn_ok l h a22 x1) rfl rfl ⟨by decide, by decide, by decide⟩ zcd_X0_turn rfl ⟨zw_369, zw_270, zw_271, zw_59⟩ ⟨Nat.le_of_ble_eq_true rfl, Nat.le_of_ble_eq_true rfl⟩ rfl (Nat.le_of_ble_eq_true rfl) (eX5_orbitLength 3 rfl) (fun x23 => ?_)
  refine zr_istore_n (ls2 := [some (.ref a0, 5), some (.int x1, 0), some (.int x23, 0), none]) (eX5_orbitLength 4 rfl) rfl (Nat.le_of_ble_eq_true rfl) rfl ?_
  refine zr_iconst (eX5_orbitLength 5 rfl) zk_iconst_1 ?_
  refine zr_istore_n (ls2 := [some (.ref a0, 5), some (.int x1, 0), some (.int x23, 0), some (.int 1, 0)]) (eX5_orbitLength 6 rfl) rfl (Nat.le_of_ble_eq_true rfl) rfl ?_
  refine v_drop [true, true, true, true] rfl ?_
  refine zlp_ind (fun (k26 : Int32 → Int32 → Option (Int32)) => ∀ (x24 : Int32) (x25 : Int32), V l mX5_orbitLength (zN h) (zS h) 0 (zoi h) 11 [some (.ref a0, 5), some (.int x1, 0), some (.int x24, 0), some (.int x25, 0)] [] h (k26 x24 x25)) ?_ ?_ x23 1
  · exact fun _ _ => v_none
  intro k26 hk26 x24 x25
  unfold gX5_orbitLength_L1
  refine zr_iload_n (eX5_orbitLength 7 rfl) rfl rfl ?_
  refine zr_iload_n (eX5_orbitLength 8 rfl) rfl rfl ?_
  refine zr_icmp_eq (eX5_orbitLength 9 rfl) (t := 44) (by decide) ?_ ?_
  · refine zr_iload_n (eX5_orbitLength 25 rfl) rfl rfl ?_
    exact zr_iret rfl rfl (eX5_orbitLength 26 rfl)
  · refine zr_iload_n (eX5_orbitLength 10 rfl) rfl rfl ?_
    refine zr_bipush (eX5_orbitLength 11 rfl) zk_bipush_8 ?_
    refine zr_icmp_ge (eX5_orbitLength 12 rfl) (t := 44) (by decide) ?_ ?_
    · refine zr_iload_n (eX5_orbitLength 25 rfl) rfl rfl ?_
      exact zr_iret rfl rfl (eX5_orbitLength 26 rfl)
    · refine zr_iload_n (eX5_orbitLength 13 rfl) rfl rfl ?_
      refine zr_iload_n (eX5_orbitLength 14 rfl) rfl rfl ?_
      refine zr_icmp_ge (eX5_orbitLength 15 rfl) (t := 29) (by decide) ?_ ?_
      · refine zr_aload_n (r := (some a0)) (eX5_orbitLength 18 rfl) rfl rfl ?_
        refine zr_getR2 zf_RX5_43 (τ2 := 0) rfl (eX5_orbitLength 19 rfl) ?_
        refine v_letr (fun r27 => ?_)
        refine zr_iload_n (eX5_orbitLength 20 rfl) rfl rfl ?_
        refine v_nn (fun a28 ea28 => ?_)
        subst ea28
        refine zr_invV_i (as := [(.int x24, 0)]) (cX0_turn_ok l h a28 x24) rfl rfl ⟨by decide, by decide, by decide⟩ zcd_X0_turn rfl ⟨zw_369, zw_270, zw_271, zw_59⟩ ⟨Nat.le_of_ble_eq_true rfl, Nat.le_of_ble_eq_true rfl⟩ rfl (Nat.le_of_ble_eq_true rfl) (eX5_orbitLength 21 rfl) (fun x29 => ?_)
        refine zr_istore_n (ls2 := [some (.ref a0, 5), some (.int x1, 0), some (.int x29, 0), some (.int x25, 0)]) (eX5_orbitLength 22 rfl) rfl (Nat.le_of_ble_eq_true rfl) rfl ?_
        refine zr_iinc (ls2 := [some (.ref a0, 5), some (.int x1, 0), some (.int x29, 0), some (.int (x25 + 1), 0)]) (eX5_orbitLength 23 rfl) rfl (Nat.le_of_ble_eq_true rfl) zk_iconst_1 rfl ?_
        refine zr_goto (eX5_orbitLength 24 rfl) (t := 11) (by decide) ?_
        exact v_drop [true, true, true, true] rfl (hk26 x29 (x25 + 1))
      · refine zr_iconst (eX5_orbitLength 16 rfl) zk_iconst_0 ?_
        exact zr_iret rfl rfl (eX5_orbitLength 17 rfl)
def gX5_leads_J1 : Option (Int32) :=
  (some 1)
def gX5_leads (h : Zh) (a0 : Nat) (x1 : Int32) : Option (Int32) :=
  zbi (gX5_orbitLength h a0 x1) (fun x21 => (if (x21 : Int32) = 0 then (some 0)
  else zjn gX5_leads_J1 (fun (k22 : Option (Int32)) =>
  (if ((zI h a0 12) : Int32) = 1 then k22
  else (if (2 : Int32) = 0 then none else (if ((x21 - x21 / 2 * 2) : Int32) = 0 then k22
  else (some 0)))))))
set_option maxRecDepth 20000 in
theorem cX5_leads_ok (l : Launch) (h : Zh) (a0 : Nat) (x1 : Int32) : Zc l yX5_leads mX5_leads 0 h [(.ref a0, 5), (.int x1, 0)] ((gX5_leads h a0 x1).map (zoi h)) := by
  refine zc_of2 (ls := [some (.ref a0, 5), some (.int x1, 0), none]) (j := 1) (by decide +kernel) rfl rfl (zEn_ca (zEn_ci rfl)) (Nat.le_of_ble_eq_true rfl) rfl ?_
  unfold gX5_leads
  refine zr_aload_n (r := (some a0)) (eX5_leads 0 rfl) rfl rfl ?_
  refine zr_iload_n (eX5_leads 1 rfl) rfl rfl ?_
  refine zr_invV_i (as := [(.int x1, 0)]) (cX5_orbitLength_ok l h a0 x1) rfl rfl ⟨by decide, by decide, by decide⟩ zcd_X5_orbitLength rfl ⟨zw_365, zw_366, zw_367, zw_64⟩ ⟨Nat.le_of_ble_eq_true rfl, Nat.le_of_ble_eq_true rfl⟩ rfl (Nat.le_of_ble_eq_true rfl) (eX5_leads 2 rfl) (fun x21 => ?_)
  refine zr_istore_n (ls2 := [some (.ref a0, 5), some (.int x1, 0), some (.int x21, 0)]) (eX5_leads 3 rfl) rfl (Nat.le_of_ble_eq_true rfl) rfl ?_
  refine zr_iload_n (eX5_leads 4 rfl) rfl rfl ?_
  refine zr_if_ne (eX5_leads 5 rfl) (t := 12) (by decide) ?_ ?_
  · refine zr_aload_n (r := (some a0)) (eX5_leads 8 rfl) rfl rfl ?_
    refine zr_getI zf_RX5_51 ⟨by decide, by decide⟩ (eX5_leads 9 rfl) ?_
    refine zr_iconst (eX5_leads 10 rfl) zk_iconst_1 ?_
    refine v_jn (fun (k22 : Option (Int32)) => V l mX5_leads (zN h) (zS h) 0 (zoi h) 26 [none, none, none] [] h k22) ?_ ?_
    · skip
      unfold gX5_leads_J1
      refine zr_iconst (eX5_leads 16 rfl) zk_iconst_1 ?_
      refine zr_goto (eX5_leads 17 rfl) (t := 31) (by decide) ?_
      exact zr_zret rfl (by decide) rfl (eX5_leads 19 rfl)
    intro k22 hk22
    refine zr_icmp_eq (eX5_leads 11 rfl) (t := 26) (by decide) ?_ ?_
    · exact v_drop [false, false, false] rfl (hk22)
    · refine zr_iload_n (eX5_leads 12 rfl) rfl rfl ?_
      refine zr_iconst (eX5_leads 13 rfl) zk_iconst_2 ?_
      refine zr_irem (eX5_leads 14 rfl) ?_
      refine zr_if_ne (eX5_leads 15 rfl) (t := 30) (by decide) ?_ ?_
      · refine zr_iconst (eX5_leads 18 rfl) zk_iconst_0 ?_
        exact zr_zret rfl (by decide) rfl (eX5_leads 19 rfl)
      · exact v_drop [false, false, false] rfl (hk22)
  · refine zr_iconst (eX5_leads 6 rfl) zk_iconst_0 ?_
    exact zr_zret rfl (by decide) rfl (eX5_leads 7 rfl)
def gX5_prepare_J1 (x22 : Int32) (k23 : Int32 → Zh → Option (Zh)) : Zh → Option (Zh) :=
  fun (h8 : Zh) => k23 (x22 + 1) h8
def gX5_prepare_L2 (a0 : Nat) (r1 : Option Nat) (x2 : Int32) : (Int32 → Zh → Option (Zh)) → Int32 → Zh → Option (Zh) :=
  fun (k23 : Int32 → Zh → Option (Zh)) (x22 : Int32) (h7 : Zh) => Option.bind r1 (fun a24 => (if ((zI h7 a24 4) : Int32) ≤ x22 then some h7
  else zbi (gJ6_bitCount_0f7a4 x22) (fun x25 => zjn (gX5_prepare_J1 x22 k23) (fun (k26 : Zh → Option (Zh)) =>
  (if (x25 : Int32) = x2 then zbi (gX5_leads h7 a0 x22) (fun x27 => (if (x27 : Int32) = 0 then k26 h7
  else zlt (zR h7 a0 0) (fun r28 => Option.bind r28 (fun a29 => (if ((Int32.ofNat (zL h7 a29)) : Int32) ≤ (zI h7 a0 13) then k26 h7
  else zlt (zR h7 a0 0) (fun r30 => Option.bind r30 (fun a31 => zg (zin (zI h7 a0 13) (zL h7 a31)) (zlt (zsI h7 a31 (zx (zI h7 a0 13)) x22) (fun (h9 : Zh) => zlt (zsI h9 a0 13 ((zI h9 a0 13) + 1)) (fun (h10 : Zh) => k26 h10))))))))))
  else k26 h7)))))
def gX5_prepare_J3 (h : Zh) (a0 : Nat) (r1 : Option Nat) (x2 : Int32) (x3 : Int32) : Option (Zh) :=
  zlt (zsR h a0 10 r1) (fun (h1 : Zh) => zlt (zsI h1 a0 11 x2) (fun (h2 : Zh) => zlt (zsI h2 a0 12 x3) (fun (h3 : Zh) => zlt (zsI h3 a0 14 0) (fun (h4 : Zh) => zlt (zsI h4 a0 15 0) (fun (h5 : Zh) => zlt (zsI h5 a0 13 0) (fun (h6 : Zh) => zlp (fun (_ : Int32) (_ : Zh) => (none : Option (Zh))) (gX5_prepare_L2 a0 r1 x2) zFU 0 h6))))))
def gX5_prepare (h : Zh) (a0 : Nat) (r1 : Option Nat) (x2 : Int32) (x3 : Int32) : Option (Zh) :=
  zlt (zR h a0 10) (fun r21 => zjn (gX5_prepare_J3 h a0 r1 x2 x3) (fun (k32 : Option (Zh)) =>
  (if (r21 : Option Nat) = r1 then (if ((zI h a0 11) : Int32) = x2 then (if ((zI h a0 12) : Int32) = x3 then some h
  else k32)
  else k32)
  else k32)))
set_option maxRecDepth 20000 in
theorem cX5_prepare_ok (l : Launch) (h : Zh) (a0 : Nat) (r1 : Option Nat) (x2 : Int32) (x3 : Int32) : Zc l yX5_prepare mX5_prepare 0 h [(.ref a0, 5), (va_rf r1, 0), (.int x2, 0), (.int x3, 0)] ((gX5_prepare h a0 r1 x2 x3).map zoV) := by
  refine zc_of2 (ls := [some (.ref a0, 5), some (va_rf r1, 0), some (.int x2, 0), some (.int x3, 0), none]) (j := 1) (by decide +kernel) rfl rfl (zEn_ca (zEn_cr (zEn_ci (zEn_ci rfl)))) (Nat.le_of_ble_eq_true rfl) rfl ?_
  unfold gX5_prepare
  refine zr_aload_n (r := (some a0)) (eX5_prepare 0 rfl) rfl rfl ?_
  refine zr_getR2 zf_RX5_43 (τ2 := 0) rfl (eX5_prepare 1 rfl) ?_
  refine v_letr (fun r21 => ?_)
  refine zr_aload_n (r := r1) (eX5_prepare 2 rfl) rfl rfl ?_
  refine v_jn (fun (k32 : Option (Zh)) => V l mX5_prepare (zN h) (zS h) 0 zoV 25 [some (.ref a0, 5), some (va_rf r1, 0), some (.int x2, 0), some (.int x3, 0), none] [] h k32) ?_ ?_
  · skip
    unfold gX5_prepare_J3
    refine zr_aload_n (r := (some a0)) (eX5_prepare 13 rfl) rfl rfl ?_
    refine zr_aload_n (r := r1) (eX5_prepare 14 rfl) rfl rfl ?_
    refine zr_putR (x := r1) zf_RX5_43 (by decide) (fun _ h => h) (Or.inl rfl) (eX5_prepare 15 rfl) ?_
    refine v_leth (fun h1 => ?_)
    refine zr_aload_n (r := (some a0)) (eX5_prepare 16 rfl) rfl rfl ?_
    refine zr_iload_n (eX5_prepare 17 rfl) rfl rfl ?_
    refine zr_putI zf_RX5_47 rfl (Or.inl rfl) (eX5_prepare 18 rfl) ?_
    refine v_leth (fun h2 => ?_)
    refine zr_aload_n (r := (some a0)) (eX5_prepare 19 rfl) rfl rfl ?_
    refine zr_iload_n (eX5_prepare 20 rfl) rfl rfl ?_
    refine zr_putI zf_RX5_51 rfl (Or.inl rfl) (eX5_prepare 21 rfl) ?_
    refine v_leth (fun h3 => ?_)
    refine zr_aload_n (r := (some a0)) (eX5_prepare 22 rfl) rfl rfl ?_
    refine zr_iconst (eX5_prepare 23 rfl) zk_iconst_0 ?_
    refine zr_putZ zf_RX5_57 rfl (by decide) (Or.inl rfl) (eX5_prepare 24 rfl) ?_
    refine v_leth (fun h4 => ?_)
    refine zr_aload_n (r := (some a0)) (eX5_prepare 25 rfl) rfl rfl ?_
    refine zr_iconst (eX5_prepare 26 rfl) zk_iconst_0 ?_
    refine zr_putZ zf_RX5_61 rfl (by decide) (Or.inl rfl) (eX5_prepare 27 rfl) ?_
    refine v_leth (fun h5 => ?_)
    refine zr_aload_n (r := (some a0)) (eX5_prepare 28 rfl) rfl rfl ?_
    refine zr_iconst (eX5_prepare 29 rfl) zk_iconst_0 ?_
    refine zr_putI zf_RX5_54 rfl (Or.inl rfl) (eX5_prepare 30 rfl) ?_
    refine v_leth (fun h6 => ?_)
    refine zr_iconst (eX5_prepare 31 rfl) zk_iconst_0 ?_
    refine zr_istore (ls2 := [some (.ref a0, 5), some (va_rf r1, 0), some (.int x2, 0), some (.int x3, 0), some (.int 0, 0)]) (eX5_prepare 32 rfl) (Nat.le_of_ble_eq_true rfl) rfl ?_
    refine v_drop [true, true, true, false, true] rfl ?_
    refine zlp_ind (fun (k23 : Int32 → Zh → Option (Zh)) => ∀ (x22 : Int32) (h7 : Zh), V l mX5_prepare (zN h) (zS h) 0 zoV 58 [some (.ref a0, 5), some (va_rf r1, 0), some (.int x2, 0), none, some (.int x22, 0)] [] h7 (k23 x22 h7)) ?_ ?_ 0 h6
    · exact fun _ _ => v_none
    intro k23 hk23 x22 h7
    unfold gX5_prepare_L2
    refine zr_iload (eX5_prepare 33 rfl) rfl ?_
    refine zr_aload_n (r := r1) (eX5_prepare 34 rfl) rfl rfl ?_
    refine v_nn (fun a24 ea24 => ?_)
    subst ea24
    refine zr_getI zf_RX5_70 ⟨by decide, by decide⟩ (eX5_prepare 35 rfl) ?_
    refine zr_icmp_ge (eX5_prepare 36 rfl) (t := 124) (by decide) ?_ ?_
    · exact zr_vret rfl rfl (eX5_prepare 65 rfl)
    · refine zr_iload (eX5_prepare 37 rfl) rfl ?_
      refine zr_invS_i (as := [(.int x22, 0)]) (cJ6_bitCount_0f7a4_ok l h7 x22) rfl zcd_J6_bitCount_0f7a4 ⟨zw_360, zw_252, zw_63⟩ ⟨Nat.le_of_ble_eq_true rfl, Nat.le_of_ble_eq_true rfl⟩ rfl (Nat.le_of_ble_eq_true rfl) (eX5_prepare 38 rfl) (fun x25 => ?_)
      refine zr_iload_n (eX5_prepare 39 rfl) rfl rfl ?_
      refine v_jn (fun (k26 : Zh → Option (Zh)) => ∀ (h8 : Zh), V l mX5_prepare (zN h) (zS h) 0 zoV 118 [some (.ref a0, 5), some (.ref a24, 0), some (.int x2, 0), none, some (.int x22, 0)] [] h8 (k26 h8)) ?_ ?_
      · intro h8
        unfold gX5_prepare_J1
        refine zr_iinc (ls2 := [some (.ref a0, 5), some (.ref a24, 0), some (.int x2, 0), none, some (.int (x22 + 1), 0)]) (eX5_prepare 63 rfl) rfl (Nat.le_of_ble_eq_true rfl) zk_iconst_1 rfl ?_
        refine zr_goto (eX5_prepare 64 rfl) (t := 58) (by decide) ?_
        exact v_drop [true, true, true, false, true] rfl (hk23 (x22 + 1) h8)
      intro k26 hk26
      refine zr_icmp_ne (eX5_prepare 40 rfl) (t := 118) (by decide) ?_ ?_
      · exact v_drop [true, true, true, false, true] rfl (hk26 h7)
      · refine zr_aload_n (r := (some a0)) (eX5_prepare 41 rfl) rfl rfl ?_
        refine zr_iload (eX5_prepare 42 rfl) rfl ?_
        refine zr_invV_i (as := [(.int x22, 0)]) (cX5_leads_ok l h7 a0 x22) rfl rfl ⟨by decide, by decide, by decide⟩ zcd_X5_leads rfl ⟨zw_361, zw_362, zw_363, zw_64⟩ ⟨Nat.le_of_ble_eq_true rfl, Nat.le_of_ble_eq_true rfl⟩ rfl (Nat.le_of_ble_eq_true rfl) (eX5_prepare 43 rfl) (fun x27 => ?_)
        refine zr_if_eq (eX5_prepare 44 rfl) (t := 118) (by decide) ?_ ?_
        · exact v_drop [true, true, true, false, true] rfl (hk26 h7)
        · refine zr_aload_n (r := (some a0)) (eX5_prepare 45 rfl) rfl rfl ?_
          refine zr_getI zf_RX5_54 ⟨by decide, by decide⟩ (eX5_prepare 46 rfl) ?_
          refine zr_aload_n (r := (some a0)) (eX5_prepare 47 rfl) rfl rfl ?_
          refine zr_getR2 zf_RX5_9 (τ2 := 20) rfl (eX5_prepare 48 rfl) ?_
          refine v_letr (fun r28 => ?_)
          refine v_nn (fun a29 ea29 => ?_)
          subst ea29
          refine zr_alen (by decide) (eX5_prepare 49 rfl) ?_
          refine zr_icmp_ge (eX5_prepare 50 rfl) (t := 118) (by decide) ?_ ?_
          · exact v_drop [true, true, true, false, true] rfl (hk26 h7)
          · refine zr_aload_n (r := (some a0)) (eX5_prepare 51 rfl) rfl rfl ?_
            refine zr_getR2 zf_RX5_9 (τ2 := 20) rfl (eX5_prepare 52 rfl) ?_
            refine v_letr (fun r30 => ?_)
            refine zr_aload_n (r := (some a0)) (eX5_prepare 53 rfl) rfl rfl ?_
            refine zr_getI zf_RX5_54 ⟨by decide, by decide⟩ (eX5_prepare 54 rfl) ?_
            refine zr_iload (eX5_prepare 55 rfl) rfl ?_
            refine v_nn (fun a31 ea31 => ?_)
            subst ea31
            refine zr_iast (eX5_prepare 56 rfl) ?_
            refine v_leth (fun h9 => ?_)
            refine zr_aload_n (r := (some a0)) (eX5_prepare 57 rfl) rfl rfl ?_
            refine zr_dup (eX5_prepare 58 rfl) rfl ?_
            refine zr_getI zf_RX5_54 ⟨by decide, by decide⟩ (eX5_prepare 59 rfl) ?_
            refine zr_iconst (eX5_prepare 60 rfl) zk_iconst_1 ?_
            refine zr_iadd (eX5_prepare 61 rfl) ?_
            refine zr_putI zf_RX5_54 rfl (Or.inl rfl) (eX5_prepare 62 rfl) ?_
            refine v_leth (fun h10 => ?_)
            exact v_drop [true, true, true, false, true] rfl (hk26 h10)
  intro k32 hk32
  refine zr_acmp_ne (r := r21) (r' := r1) (eX5_prepare 3 rfl) (t := 25) (by decide) ?_ ?_
  · exact v_drop [true, true, true, true, false] rfl (hk32)
  · refine zr_aload_n (r := (some a0)) (eX5_prepare 4 rfl) rfl rfl ?_
    refine zr_getI zf_RX5_47 ⟨by decide, by decide⟩ (eX5_prepare 5 rfl) ?_
    refine zr_iload_n (eX5_prepare 6 rfl) rfl rfl ?_
    refine zr_icmp_ne (eX5_prepare 7 rfl) (t := 25) (by decide) ?_ ?_
    · exact v_drop [true, true, true, true, false] rfl (hk32)
    · refine zr_aload_n (r := (some a0)) (eX5_prepare 8 rfl) rfl rfl ?_
      refine zr_getI zf_RX5_51 ⟨by decide, by decide⟩ (eX5_prepare 9 rfl) ?_
      refine zr_iload_n (eX5_prepare 10 rfl) rfl rfl ?_
      refine zr_icmp_ne (eX5_prepare 11 rfl) (t := 25) (by decide) ?_ ?_
      · exact v_drop [true, true, true, true, false] rfl (hk32)
      · exact zr_vret rfl rfl (eX5_prepare 12 rfl)
def gX5_hasOrbit_J1 : Option (Int32) :=
  (some 0)
def gX5_hasOrbit (h : Zh) (a0 : Nat) (x1 : Int32) : Option (Int32) :=
  zjn gX5_hasOrbit_J1 (fun (k21 : Option (Int32)) =>
  (if (x1 : Int32) < 0 then k21
  else (if ((zI h a0 13) : Int32) ≤ x1 then k21
  else zlt (zR h a0 0) (fun r22 => Option.bind r22 (fun a23 => (if ((Int32.ofNat (zL h a23)) : Int32) ≤ x1 then k21
  else (some 1)))))))
set_option maxRecDepth 20000 in
theorem cX5_hasOrbit_ok (l : Launch) (h : Zh) (a0 : Nat) (x1 : Int32) : Zc l yX5_hasOrbit mX5_hasOrbit 0 h [(.ref a0, 5), (.int x1, 0)] ((gX5_hasOrbit h a0 x1).map (zoi h)) := by
  refine zc_of2 (ls := [some (.ref a0, 5), some (.int x1, 0)]) (j := 0) (by decide +kernel) rfl rfl (zEn_ca (zEn_ci rfl)) (Nat.le_of_ble_eq_true rfl) rfl ?_
  unfold gX5_hasOrbit
  refine zr_iload_n (eX5_hasOrbit 0 rfl) rfl rfl ?_
  refine v_jn (fun (k21 : Option (Int32)) => V l mX5_hasOrbit (zN h) (zS h) 0 (zoi h) 25 [none, none] [] h k21) ?_ ?_
  · skip
    unfold gX5_hasOrbit_J1
    refine zr_iconst (eX5_hasOrbit 13 rfl) zk_iconst_0 ?_
    exact zr_zret rfl (by decide) rfl (eX5_hasOrbit 14 rfl)
  intro k21 hk21
  refine zr_if_lt (eX5_hasOrbit 1 rfl) (t := 25) (by decide) ?_ ?_
  · exact v_drop [false, false] rfl (hk21)
  · refine zr_iload_n (eX5_hasOrbit 2 rfl) rfl rfl ?_
    refine zr_aload_n (r := (some a0)) (eX5_hasOrbit 3 rfl) rfl rfl ?_
    refine zr_getI zf_RX5_54 ⟨by decide, by decide⟩ (eX5_hasOrbit 4 rfl) ?_
    refine zr_icmp_ge (eX5_hasOrbit 5 rfl) (t := 25) (by decide) ?_ ?_
    · exact v_drop [false, false] rfl (hk21)
    · refine zr_iload_n (eX5_hasOrbit 6 rfl) rfl rfl ?_
      refine zr_aload_n (r := (some a0)) (eX5_hasOrbit 7 rfl) rfl rfl ?_
      refine zr_getR2 zf_RX5_9 (τ2 := 20) rfl (eX5_hasOrbit 8 rfl) ?_
      refine v_letr (fun r22 => ?_)
      refine v_nn (fun a23 ea23 => ?_)
      subst ea23
      refine zr_alen (by decide) (eX5_hasOrbit 9 rfl) ?_
      refine zr_icmp_ge (eX5_hasOrbit 10 rfl) (t := 25) (by decide) ?_ ?_
      · exact v_drop [false, false] rfl (hk21)
      · refine zr_iconst (eX5_hasOrbit 11 rfl) zk_iconst_1 ?_
        refine zr_goto (eX5_hasOrbit 12 rfl) (t := 26) (by decide) ?_
        exact zr_zret rfl (by decide) rfl (eX5_hasOrbit 14 rfl)
