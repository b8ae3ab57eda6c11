theorem zw_74 : Cond.classLink RL 7 RX11 ∈ zT := zT_of (i := 74) (by decide +kernel)
theorem zw_75 : Cond.instantiable RX11 9 ∈ zT := zT_of (i := 75) (by decide +kernel)
theorem zw_1056 : Cond.classLink RL 10 RX12 ∈ zT := zT_of (i := 1056) (by decide +kernel)
theorem zw_1057 : Cond.instantiable RX12 43 ∈ zT := zT_of (i := 1057) (by decide +kernel)
theorem zw_76 : Cond.methodLink RL 9 yX11_init ∈ zT := zT_of (i := 76) (by decide +kernel)
theorem zw_77 : Cond.instanceMethod yX11_init ∈ zT := zT_of (i := 77) (by decide +kernel)
theorem zw_1058 : Cond.methodLink RL 12 yX12_init ∈ zT := zT_of (i := 1058) (by decide +kernel)
theorem zw_1059 : Cond.instanceMethod yX12_init ∈ zT := zT_of (i := 1059) (by decide +kernel)
/-! what the tables give at the law's entry; the claim over an invariant -/
theorem zmem {i : Nat} {w : Cond} (h : (lw_tbl[i]? == some w) = true) : w ∈ lw_tbl := List.mem_of_getElem? (by simpa using h)
theorem zfx_start {s : State} {args : Array Value} (hts : ∀ w ∈ lw_tbl, w.before args s = true) (hgv : (Jvm.Cond.and given_1 narrow_1).before args s = true) : ∃ (D : va_G) (cA : Nat → ClassId), zFx D cA s := by
  obtain ⟨c0, i0, k0⟩ := u_known (C := RX0) (T := TX0) (N := 6) (n := 6) hts (fun w hw => zT_tbl (zci0.2.1 w hw)) (hts (.instantiable RX0 6) (zmem (i := 85) (by decide +kernel)))
  obtain ⟨c1, i1, k1⟩ := u_known (C := RX1) (T := TX1) (N := 9) (n := 9) hts (fun w hw => zT_tbl (zci1.2.1 w hw)) (hts (.instantiable RX1 9) (zmem (i := 642) (by decide +kernel)))
  obtain ⟨c2, i2, k2⟩ := u_known (C := RX2) (T := TX2) (N := 4) (n := 4) hts (fun w hw => zT_tbl (zci2.2.1 w hw)) (hts (.instantiable RX2 4) (zmem (i := 83) (by decide +kernel)))
  obtain ⟨c3, i3, k3⟩ := u_known (C := RX3) (T := TX3) (N := 10) (n := 10) hts (fun w hw => zT_tbl (zci3.2.1 w hw)) (hts (.instantiable RX3 10) (zmem (i := 756) (by decide +kernel)))
  obtain ⟨c4, i4, k4⟩ := u_known (C := RX4) (T := TX4) (N := 4) (n := 4) hts (fun w hw => zT_tbl (zci4.2.1 w hw)) (hts (.instantiable RX4 4) (zmem (i := 530) (by decide +kernel)))
  obtain ⟨c5, i5, k5⟩ := u_known (C := RX5) (T := TX5) (N := 18) (n := 18) hts (fun w hw => zT_tbl (zci5.2.1 w hw)) (hts (.instantiable RX5 18) (zmem (i := 290) (by decide +kernel)))
  obtain ⟨c6, i6, k6⟩ := u_known (C := RX6) (T := TX6) (N := 2) (n := 2) hts (fun w hw => zT_tbl (zci6.2.1 w hw)) (hts (.instantiable RX6 2) (zmem (i := 958) (by decide +kernel)))
  obtain ⟨c7, i7, k7⟩ := u_known (C := RX7) (T := TX7) (N := 4) (n := 4) hts (fun w hw => zT_tbl (zci7.2.1 w hw)) (hts (.instantiable RX7 4) (zmem (i := 563) (by decide +kernel)))
  obtain ⟨c8, i8, k8⟩ := u_known (C := RX8) (T := TX8) (N := 3) (n := 3) hts (fun w hw => zT_tbl (zci8.2.1 w hw)) (hts (.instantiable RX8 3) (zmem (i := 133) (by decide +kernel)))
  obtain ⟨c9, i9, k9⟩ := u_known (C := RX9) (T := TX9) (N := 1) (n := 1) hts (fun w hw => zT_tbl (zci9.2.1 w hw)) (hts (.instantiable RX9 1) (zmem (i := 173) (by decide +kernel)))
  obtain ⟨c10, i10, k10⟩ := u_known (C := RX10) (T := TX10) (N := 4) (n := 4) hts (fun w hw => zT_tbl (zci10.2.1 w hw)) (hts (.instantiable RX10 4) (zmem (i := 552) (by decide +kernel)))
  obtain ⟨c11, i11, k11⟩ := u_known (C := RX11) (T := TX11) (N := 9) (n := 9) hts (fun w hw => zT_tbl (zci11.2.1 w hw)) (hts (.instantiable RX11 9) (zmem (i := 75) (by decide +kernel)))
  obtain ⟨c12, i12, k12⟩ := u_known (C := RX12) (T := TX12) (N := 43) (n := 43) hts (fun w hw => zT_tbl (zci12.2.1 w hw)) (hts (.instantiable RX12 43) (zmem (i := 1057) (by decide +kernel)))
  obtain ⟨a20, ka, ca, f1, f2, f3⟩ := Cond.arrayClass_spec (hts (.arrayClass .int) (zmem (i := 154) (by decide +kernel)))
  obtain ⟨a21, kb, cb, g1, g2, g3⟩ := Cond.arrayClass_spec (hts (.arrayClass .long) (zmem (i := 355) (by decide +kernel)))
  have v22 := hts (.arrayOver (.object "MagnetRows$Chain")) (zmem (i := 126) (by decide +kernel))
  obtain ⟨o22, a22, m22, p22, -, q22, r22, w22⟩ := Cond.arrayOver_spec v22
  have v23 := hts (.arrayOver (.object "MagnetRows$Plain")) (zmem (i := 169) (by decide +kernel))
  obtain ⟨o23, a23, m23, p23, -, q23, r23, w23⟩ := Cond.arrayOver_spec v23
  have v24 := hts (.arrayOver (.object "MagnetRows$Sheet")) (zmem (i := 171) (by decide +kernel))
  obtain ⟨o24, a24, m24, p24, -, q24, r24, w24⟩ := Cond.arrayOver_spec v24
  have v25 := hts (.arrayOver (.object "MagnetRows$Sum")) (zmem (i := 128) (by decide +kernel))
  obtain ⟨o25, a25, m25, p25, -, q25, r25, w25⟩ := Cond.arrayOver_spec v25
  refine ⟨(fun k => [c0, c1, c2, c3, c4, c5, c6, c7, c8, c9, c10, c11, c12].getD k c0, fun k => [i0, i1, i2, i3, i4, i5, i6, i7, i8, i9, i10, i11, i12].getD k i0), fun k => [a20, a21, a22, a23, a24, a25].getD (k - 20) a20, ⟨?_, ?_⟩, ?_, ?_, ?_, ?_⟩
  · intro k q hq
    have hk : k < 13 := (List.getElem?_eq_some_iff.mp hq).1
    rcases (show k = 0 ∨ k = 1 ∨ k = 2 ∨ k = 3 ∨ k = 4 ∨ k = 5 ∨ k = 6 ∨ k = 7 ∨ k = 8 ∨ k = 9 ∨ k = 10 ∨ k = 11 ∨ k = 12 by omega) with rfl | rfl | rfl | rfl | rfl | rfl | rfl | rfl | rfl | rfl | rfl | rfl | rfl
    · cases hq; exact k0
    · cases hq; exact k1
    · cases hq; exact k2
    · cases hq; exact k3
    · cases hq; exact k4
    · cases hq; exact k5
    · cases hq; exact k6
    · cases hq; exact k7
    · cases hq; exact k8
    · cases hq; exact k9
    · cases hq; exact k10
    · cases hq; exact k11
    · cases hq; exact k12
  · intro k q hq
    have hk : k < 6 := (List.getElem?_eq_some_iff.mp hq).1
    rcases (show k = 0 ∨ k = 1 ∨ k = 2 ∨ k = 3 ∨ k = 4 ∨ k = 5 by omega) with rfl | rfl | rfl | rfl | rfl | rfl
    · cases hq; exact ⟨fun n z => ⟨fun k h => (by cases h), ka, f2, ca, f3⟩, f1⟩
    · cases hq; exact ⟨fun n z => ⟨fun k h => (by cases h), kb, g2, cb, g3⟩, g1⟩
    · cases hq; exact ⟨fun n z => ⟨fun k h => (by cases h), m22, q22, o22, r22⟩, m22, o22, q22, r22, p22, w22⟩
    · cases hq; exact ⟨fun n z => ⟨fun k h => (by cases h), m23, q23, o23, r23⟩, m23, o23, q23, r23, p23, w23⟩
    · cases hq; exact ⟨fun n z => ⟨fun k h => (by cases h), m24, q24, o24, r24⟩, m24, o24, q24, r24, p24, w24⟩
    · cases hq; exact ⟨fun n z => ⟨fun k h => (by cases h), m25, q25, o25, r25⟩, m25, o25, q25, r25, p25, w25⟩
  · intro C hC
    simp only [zOv, List.mem_cons, List.not_mem_nil, or_false] at hC
    rcases hC with rfl | rfl | rfl | rfl
    · exact va_AO.of v22
    · exact va_AO.of v23
    · exact va_AO.of v24
    · exact va_AO.of v25
  · have hs := flat_of_before _ hgv
    intro q hq
    simp only [zNc, List.mem_cons, List.not_mem_nil, or_false] at hq
    rcases hq with rfl | rfl | rfl
    · exact va_Nc.of (hs (.not (.castable "MagnetRows$Plain" "MagnetRows$Turned")) (by decide +kernel))
    · exact va_Nc.of (hs (.not (.castable "MagnetRows$Plain" "MagnetRows$Signed")) (by decide +kernel))
    · exact va_Nc.of (hs (.not (.castable "MagnetRows$Turned" "MagnetRows$Signed")) (by decide +kernel))
  · intro q hq
    simp only [zCs, List.mem_cons, List.not_mem_nil, or_false] at hq
    rcases hq with rfl | rfl | rfl | rfl
    · exact va_Nw.of rfl (hts (.castable "MagnetRows$Turned" "MagnetRows$Plain") (zmem (i := 1611) (by decide +kernel)))
    · exact va_Nw.of rfl (hts (.castable "MagnetRows$Signed" "MagnetRows$Plain") (zmem (i := 1612) (by decide +kernel)))
    · exact va_Nw.of rfl (hts (.castable "MagnetRows$Signed" "MagnetRows$Turned") (zmem (i := 1610) (by decide +kernel)))
    · exact va_Nw.of rfl (hts (.castable "[I" "java/lang/Cloneable") (zmem (i := 842) (by decide +kernel)))
  · intro q hq
    simp only [zMn, List.mem_cons, List.not_mem_nil, or_false] at hq
    rcases hq with rfl | rfl | rfl | rfl
    · exact va_Nw.of rfl (hts (.methodLinkNest "MagnetRows" 39 ⟨"MagnetRows$Trail", "<init>", "()V"⟩ "MagnetRows") (zmem (i := 174) (by decide +kernel)))
    · exact va_Nw.of rfl (hts (.methodLinkNest "MagnetRows" 349 ⟨"MagnetRows$Sector", "<init>", "()V"⟩ "MagnetRows") (zmem (i := 291) (by decide +kernel)))
    · exact va_Nw.of rfl (hts (.methodLinkNest "MagnetRows" 354 ⟨"MagnetRows$Ice", "<init>", "()V"⟩ "MagnetRows") (zmem (i := 643) (by decide +kernel)))
    · exact va_Nw.of rfl (hts (.methodLinkNest "MagnetRows" 355 ⟨"MagnetRows$Mixer", "<init>", "()V"⟩ "MagnetRows") (zmem (i := 757) (by decide +kernel)))
def ze0 : Zh := (0, 0, fun _ => (0, 0), fun _ _ => 0, fun _ _ => 0, fun _ _ => none)
theorem whole_open (Inv : Nat → Zh → Zh → Prop) (hA : zAll Inv) (hB : zBd Inv) (hSk : ∀ k hx hm, k < 512 → Inv k hx hm → Inv (k + 1) hx hm) (h0 : ∃ hx hm, gX11_init (zA ze0 11 9) 0 = some hx ∧ gX12_init (zA ze0 12 43) 0 = some hm ∧ Inv 0 hx hm)
    {p : Program} {e : Env} {s : State} {m : MethodId} {below : List Frame} {meth : Method} {c : Code} (l : Launch) {b L : Nat} {xs : Nat → Int32} (hL : L ≤ 3584) (C0 : lw_At p s m meth c b L xs) : W p l e room_1 s m #[Value.ref b] below meth c s.heap [] 0 0 (lw_Z below #[Value.ref b] s) (entryFrame m ([Value.ref b] : List Value).toArray 4) := by
  obtain ⟨hx, hm, g1, g2, hI⟩ := h0
  have hBd := hB 0 hx hm (by omega) hI
  obtain ⟨D, cA, fx⟩ := zfx_start C0.2.2.2.2.2.1 C0.2.2.2.2.2.2.2.2.2
  have wf0 : zWf ze0 := fun i k j hj => by cases hj
  have lx : zLe (zA ze0 11 9) hx := (cX11_init_ok l (zA ze0 11 9) 0 (zoV hx) (by rw [g1]; rfl)).1
  have lm : zLe (zA ze0 12 43) hm := (cX12_init_ok l (zA ze0 12 43) 0 (zoV hm) (by rw [g2]; rfl)).1
  have lm0 : zLe ze0 hm := zLe_A.tr lm
  have n1 := hBd.2.2.1
  have n2 := hBd.2.2.2
  have lx1 : 1 ≤ zN hx := lx.1
  have lx2 : 9 ≤ zS hx := lx.2.1
  have lm1 : 1 ≤ zN hm := lm.1
  have lm2 : 43 ≤ zS hm := lm.2.1
  have hl := lv_entry ([.ref b]) (n := 4) (Nat.le_of_ble_eq_true rfl)
  rw [lg_entry_eq]
  generalize (lg_sl ([.ref b]) ++ List.replicate (4 - (lg_sl ([.ref b])).length) Slot.unset).toArray = Lc at hl ⊢
  have hl : lv_has Lc 4 [(0, .ref b)] := hl
  have hgo : U0 p l e s m below meth c b L xs D cA 0 0 0 [(0, .ref b)] [] ze0 ze0 := by
    refine u0_new zci11 zw_74 zw_75 zw_57 ⟨rfl, rfl⟩ ⟨by decide, by decide⟩ (eL_0 0 rfl) (fun qx => ?_)
    refine u0_dup (eL_0 1 rfl) rfl ?_
    refine u0_callI (cX11_init_ok l (zA ze0 11 9) 0) g1 ⟨Nat.lt_succ_self _, zK_A⟩ ⟨by show zN hx + 0 ≤ _; omega, by show zS hx + 0 ≤ _; omega⟩ zcd_X11_init rfl rfl ⟨zw_76, zw_77, zw_57⟩ ⟨Nat.le_of_ble_eq_true rfl, Nat.le_of_ble_eq_true rfl⟩ (Nat.le_of_ble_eq_true rfl) (eL_0 2 rfl) ?_
    refine u0_astore (i := 1) (ls2 := [(1, .ref qx), (0, .ref b)]) (eL_0 3 rfl) rfl (by decide) rfl ?_
    refine u0_swap ?_
    refine u0_new zci12 zw_1056 zw_1057 zw_62 ⟨rfl, rfl⟩ ⟨by omega, by omega⟩ (eL_0 4 rfl) (fun qm => ?_)
    refine u0_dup (eL_0 5 rfl) rfl ?_
    refine u0_callI (cX12_init_ok l (zA ze0 12 43) 0) g2 ⟨Nat.lt_succ_self _, zK_A⟩ ⟨by omega, by omega⟩ zcd_X12_init rfl rfl ⟨zw_1058, zw_1059, zw_62⟩ ⟨Nat.le_of_ble_eq_true rfl, Nat.le_of_ble_eq_true rfl⟩ (Nat.le_of_ble_eq_true rfl) (eL_0 6 rfl) ?_
    refine u0_astore (i := 2) (ls2 := [(2, .ref qm), (1, .ref qx), (0, .ref b)]) (eL_0 7 rfl) rfl (by decide) rfl ?_
    refine u0_swap ?_
    refine u0_iconst (eL_0 8 rfl) zk_iconst_0 ?_
    refine u0_istore (i := 3) (ls2 := [(3, .int 0), (2, .ref qm), (1, .ref qx), (0, .ref b)]) (eL_0 9 rfl) rfl (by decide) rfl ?_
    intro hC ρ1 ρ2 H locs Lc' cells slots w lv
    exact zloop Inv hA hB hSk hL (L + 1) 0 0 hx hm rfl (Nat.zero_le _) (by omega) hI hC ρ1 ρ2 H locs Lc' cells slots w (lv_sub lv [3, 2, 1, 0] rfl)
  refine hgo ⟨C0, fx, hL⟩ (fun _ => 0) (fun _ => 0) s.heap [] Lc 0 0 ⟨⟨fun k q h => by simp [zWs, ze0, zN] at h, ⟨fun i j p q h => by simp [zWs, ze0, zN] at h, fun k q h => by simp [zWs, ze0, zN] at h⟩, rfl, wf0⟩, ⟨fun k q h => by simp [zWs, ze0, zN] at h, ⟨fun i j p q h => by simp [zWs, ze0, zN] at h, fun k q h => by simp [zWs, ze0, zN] at h⟩, rfl, wf0⟩, fun i j hi => absurd hi (Nat.not_lt_zero i), va_S.rf, rfl, rfl⟩ hl
