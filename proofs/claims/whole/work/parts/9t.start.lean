/-! how it begins -/
theorem mE_1 : zsR (zA mB0 20 256) 0 6 (some (zN mB0)) = mB1 := rfl
theorem mE_2 : zsR (zA mB1 20 256) 0 7 (some (zN mB1)) = mB2 := rfl
theorem mE_3 : zsR (zA mB2 20 256) 0 8 (some (zN mB2)) = mB3 := rfl
theorem mE_4 : zsR (zA mB3 20 256) 0 9 (some (zN mB3)) = mB4 := rfl
theorem mE_5 : zsR (zA mB4 21 100) 0 10 (some (zN mB4)) = mB5 := rfl
theorem mE_6 : zsR (zA mB5 21 11) 0 11 (some (zN mB5)) = mB6 := rfl
theorem mE_7 : zsR (zA mB6 21 100) 0 12 (some (zN mB6)) = mB7 := rfl
theorem mE_8 : zsR (zA mB7 21 100) 0 13 (some (zN mB7)) = mB8 := rfl
theorem mE_9 : zsR (zA mB8 21 11) 0 14 (some (zN mB8)) = mB9 := rfl
theorem mE_10 : zsR (zA mB9 21 11) 0 15 (some (zN mB9)) = mB10 := rfl
theorem mE_11 : zsR (zA mB10 21 256) 0 16 (some (zN mB10)) = mB11 := rfl
theorem mE_12 : zsR (zA mB11 21 256) 0 17 (some (zN mB11)) = mB12 := rfl
theorem mE_13 : zsR (zA mB12 21 10) 0 18 (some (zN mB12)) = mB13 := rfl
theorem mE_14 : zsR (zA mB13 20 6) 0 20 (some (zN mB13)) = mB14 := rfl
theorem mE_15 : zsR (zA mB14 20 6) 0 21 (some (zN mB14)) = mB15 := rfl
theorem mE_16 : zsR (zA mB15 20 6) 0 22 (some (zN mB15)) = mB16 := rfl
theorem mE_17 : zsR (zA mB16 20 6) 0 23 (some (zN mB16)) = mB17 := rfl
theorem mE_18 : zsR (zA mB17 21 4096) 0 24 (some (zN mB17)) = mB18 := rfl
theorem mE_19 : zsR (zA mB18 21 4096) 0 25 (some (zN mB18)) = mB19 := rfl
theorem mE_20 : zsR (zA mB19 21 8) 0 26 (some (zN mB19)) = mB20 := rfl
theorem mE_21 : zsR (zA mB20 21 8) 0 27 (some (zN mB20)) = mB21 := rfl
theorem mE_22 : zsR (zA mB21 21 8) 0 28 (some (zN mB21)) = mB22 := rfl
theorem mE_23 : zsR (zA mB22 20 5) 0 29 (some (zN mB22)) = mB23 := rfl
theorem mE_24 : zsR (zA mB23 20 300) 0 30 (some (zN mB23)) = mB24 := rfl
theorem mE_25 : zsR (zA mB24 20 300) 0 31 (some (zN mB24)) = mB25 := rfl
theorem mE_26 : zsR (zA mB25 20 300) 0 32 (some (zN mB25)) = mB26 := rfl
theorem mE_27 : zsR (zA mB26 21 65536) 0 33 (some (zN mB26)) = mB27 := rfl
theorem mE_28 : zsR (zA mB27 21 65536) 0 34 (some (zN mB27)) = mB28 := rfl
theorem mE_29 : zsR (zA mB28 20 15288) 0 35 (some (zN mB28)) = mB29 := rfl
theorem mE_30 : zsR (zA mB29 20 4) 0 38 (some (zN mB29)) = mB30 := rfl
theorem mE_31 : zsR (zA mB30 20 4) 0 39 (some (zN mB30)) = mB31 := rfl
theorem mE_32 : zsR (zA mB31 20 240) 0 40 (some (zN mB31)) = mB32 := rfl
theorem mE_33 : zsR (zA mB32 20 60) 0 41 (some (zN mB32)) = mB33 := rfl
theorem z0A {h : Zh} {t n i k : Nat} {v : Option Nat} (p : ∀ a b, zI h a b = 0) : ∀ a b, zI (zsR (zA h t n) i k v) a b = 0 := fun a b => by
  show (if a = h.1 then 0 else zI h a b) = 0
  split
  · rfl
  · exact p a b
theorem mI_0 : ∀ a b, zI mB0 a b = 0 := fun a b => by
  show (if a = ze0.1 then 0 else zI ze0 a b) = 0
  split
  · rfl
  · rfl
theorem mI_1 : ∀ a b, zI mB1 a b = 0 := z0A (h := mB0) mI_0
theorem mI_2 : ∀ a b, zI mB2 a b = 0 := z0A (h := mB1) mI_1
theorem mI_3 : ∀ a b, zI mB3 a b = 0 := z0A (h := mB2) mI_2
theorem mI_4 : ∀ a b, zI mB4 a b = 0 := z0A (h := mB3) mI_3
theorem mI_5 : ∀ a b, zI mB5 a b = 0 := z0A (h := mB4) mI_4
theorem mI_6 : ∀ a b, zI mB6 a b = 0 := z0A (h := mB5) mI_5
theorem mI_7 : ∀ a b, zI mB7 a b = 0 := z0A (h := mB6) mI_6
theorem mI_8 : ∀ a b, zI mB8 a b = 0 := z0A (h := mB7) mI_7
theorem mI_9 : ∀ a b, zI mB9 a b = 0 := z0A (h := mB8) mI_8
theorem mI_10 : ∀ a b, zI mB10 a b = 0 := z0A (h := mB9) mI_9
theorem mI_11 : ∀ a b, zI mB11 a b = 0 := z0A (h := mB10) mI_10
theorem mI_12 : ∀ a b, zI mB12 a b = 0 := z0A (h := mB11) mI_11
theorem mI_13 : ∀ a b, zI mB13 a b = 0 := z0A (h := mB12) mI_12
theorem mI_14 : ∀ a b, zI mB14 a b = 0 := z0A (h := mB13) mI_13
theorem mI_15 : ∀ a b, zI mB15 a b = 0 := z0A (h := mB14) mI_14
theorem mI_16 : ∀ a b, zI mB16 a b = 0 := z0A (h := mB15) mI_15
theorem mI_17 : ∀ a b, zI mB17 a b = 0 := z0A (h := mB16) mI_16
theorem mI_18 : ∀ a b, zI mB18 a b = 0 := z0A (h := mB17) mI_17
theorem mI_19 : ∀ a b, zI mB19 a b = 0 := z0A (h := mB18) mI_18
theorem mI_20 : ∀ a b, zI mB20 a b = 0 := z0A (h := mB19) mI_19
theorem mI_21 : ∀ a b, zI mB21 a b = 0 := z0A (h := mB20) mI_20
theorem mI_22 : ∀ a b, zI mB22 a b = 0 := z0A (h := mB21) mI_21
theorem mI_23 : ∀ a b, zI mB23 a b = 0 := z0A (h := mB22) mI_22
theorem mI_24 : ∀ a b, zI mB24 a b = 0 := z0A (h := mB23) mI_23
theorem mI_25 : ∀ a b, zI mB25 a b = 0 := z0A (h := mB24) mI_24
theorem mI_26 : ∀ a b, zI mB26 a b = 0 := z0A (h := mB25) mI_25
theorem mI_27 : ∀ a b, zI mB27 a b = 0 := z0A (h := mB26) mI_26
theorem mI_28 : ∀ a b, zI mB28 a b = 0 := z0A (h := mB27) mI_27
theorem mI_29 : ∀ a b, zI mB29 a b = 0 := z0A (h := mB28) mI_28
theorem mI_30 : ∀ a b, zI mB30 a b = 0 := z0A (h := mB29) mI_29
theorem mI_31 : ∀ a b, zI mB31 a b = 0 := z0A (h := mB30) mI_30
theorem mI_32 : ∀ a b, zI mB32 a b = 0 := z0A (h := mB31) mI_31
theorem mI_33 : ∀ a b, zI mB33 a b = 0 := z0A (h := mB32) mI_32
theorem mB_eq : mB33 = mH mB33.2.2.2.1 mB33.2.2.2.2.1 := by
  have h1 : mB33.1 = 34 := by decide +kernel
  have h2 : mB33.2.1 = 157735 := by decide +kernel
  unfold mH
  rw [← h1, ← h2]
def sh0 (I : Nat → Nat → Int32) (k : Nat) : Nat → Nat → Int32 := zW I 30 (fun y => if y < k then -1 else I 30 y)
theorem init_M : ∃ I J, gX12_init (zA ze0 12 43) 0 = some (mH I J) ∧ stM I (fun _ => (6, 1, 2, 1), fun _ _ => [], 0, 0) 0 (fun _ => (0, 0, 0, 0)) (fun _ => none) 0 0 := by
  show ∃ I J, gX12_init mB0 0 = some (mH I J) ∧ _
  have k256 : zok 256 = true := by decide
  have x256 : zx 256 = 256 := by decide
  have k100 : zok 100 = true := by decide
  have x100 : zx 100 = 100 := by decide
  have k11 : zok 11 = true := by decide
  have x11 : zx 11 = 11 := by decide
  have k10 : zok 10 = true := by decide
  have x10 : zx 10 = 10 := by decide
  have k6 : zok 6 = true := by decide
  have x6 : zx 6 = 6 := by decide
  have k4096 : zok 4096 = true := by decide
  have x4096 : zx 4096 = 4096 := by decide
  have k8 : zok 8 = true := by decide
  have x8 : zx 8 = 8 := by decide
  have k5 : zok 5 = true := by decide
  have x5 : zx 5 = 5 := by decide
  have k300 : zok 300 = true := by decide
  have x300 : zx 300 = 300 := by decide
  have k65536 : zok 65536 = true := by decide
  have x65536 : zx 65536 = 65536 := by decide
  have k15288 : zok 15288 = true := by decide
  have x15288 : zx 15288 = 15288 := by decide
  have k4 : zok 4 = true := by decide
  have x4 : zx 4 = 4 := by decide
  have k240 : zok 240 = true := by decide
  have x240 : zx 240 = 240 := by decide
  have k60 : zok 60 = true := by decide
  have x60 : zx 60 = 60 := by decide
  unfold gX12_init
  rw [k256, k100, k11, k10, k6, k4096, k8, k5, k300, k65536, k15288, k4, k240, k60, x256, x100, x11, x10, x6, x4096, x8, x5, x300, x65536, x15288, x4, x240, x60]
  rw [zg_1, zlt_, zlt_, mE_1, zlt_]
  rw [zg_1, zlt_, zlt_, mE_2, zlt_]
  rw [zg_1, zlt_, zlt_, mE_3, zlt_]
  rw [zg_1, zlt_, zlt_, mE_4, zlt_]
  rw [zg_1, zlt_, zlt_, mE_5, zlt_]
  rw [zg_1, zlt_, zlt_, mE_6, zlt_]
  rw [zg_1, zlt_, zlt_, mE_7, zlt_]
  rw [zg_1, zlt_, zlt_, mE_8, zlt_]
  rw [zg_1, zlt_, zlt_, mE_9, zlt_]
  rw [zg_1, zlt_, zlt_, mE_10, zlt_]
  rw [zg_1, zlt_, zlt_, mE_11, zlt_]
  rw [zg_1, zlt_, zlt_, mE_12, zlt_]
  rw [zg_1, zlt_, zlt_, mE_13, zlt_]
  rw [zg_1, zlt_, zlt_, mE_14, zlt_]
  rw [zg_1, zlt_, zlt_, mE_15, zlt_]
  rw [zg_1, zlt_, zlt_, mE_16, zlt_]
  rw [zg_1, zlt_, zlt_, mE_17, zlt_]
  rw [zg_1, zlt_, zlt_, mE_18, zlt_]
  rw [zg_1, zlt_, zlt_, mE_19, zlt_]
  rw [zg_1, zlt_, zlt_, mE_20, zlt_]
  rw [zg_1, zlt_, zlt_, mE_21, zlt_]
  rw [zg_1, zlt_, zlt_, mE_22, zlt_]
  rw [zg_1, zlt_, zlt_, mE_23, zlt_]
  rw [zg_1, zlt_, zlt_, mE_24, zlt_]
  rw [zg_1, zlt_, zlt_, mE_25, zlt_]
  rw [zg_1, zlt_, zlt_, mE_26, zlt_]
  rw [zg_1, zlt_, zlt_, mE_27, zlt_]
  rw [zg_1, zlt_, zlt_, mE_28, zlt_]
  rw [zg_1, zlt_, zlt_, mE_29, zlt_]
  rw [zg_1, zlt_, zlt_, mE_30, zlt_]
  rw [zg_1, zlt_, zlt_, mE_31, zlt_]
  rw [zg_1, zlt_, zlt_, mE_32, zlt_]
  rw [zg_1, zlt_, zlt_, mE_33, zlt_]
  rw [zlt_, zlt_, zlt_, zlt_, zjn_, mB_eq, msI, msI, msI, msI]
  generalize hI0 : mB33.2.2.2.1 = I0
  generalize mB33.2.2.2.2.1 = J0
  have z0 : ∀ a b, I0 a b = 0 := fun a b => by rw [← hI0]; exact mI_33 a b
  generalize hI1 : zU (zU (zU (zU I0 0 1 6) 0 2 1) 0 3 2) 0 4 1 = I1
  have i1 : ∀ a b, ¬ (a = 0 ∧ (b = 1 ∨ b = 2 ∨ b = 3 ∨ b = 4)) → I1 a b = 0 := fun a b hh => by
    rw [← hI1]
    show (if a = 0 ∧ b = 4 then 1 else if a = 0 ∧ b = 3 then 2 else if a = 0 ∧ b = 2 then 1 else if a = 0 ∧ b = 1 then 6 else I0 a b) = 0
    rw [if_neg (by omega), if_neg (by omega), if_neg (by omega), if_neg (by omega), z0]
  have i11 : I1 0 1 = 6 := by rw [← hI1]; rfl
  have i12 : I1 0 2 = 1 := by rw [← hI1]; rfl
  have i13 : I1 0 3 = 2 := by rw [← hI1]; rfl
  have i14 : I1 0 4 = 1 := by rw [← hI1]; rfl
  have hloop := zlp_it (R := Option Zh) (z := fun (_ : Int32) (_ : Zh) => (none : Option (Zh))) (F := gX12_init_L2 0 (gX12_init_J1 0)) (fun k (F : Int32 → Zh → Option Zh) => F (nI k) (mH (sh0 I1 k) J0)) (gX12_init_J1 0 (mH (sh0 I1 4) J0)) 4 ?_ ?_ zFU (by unfold zFU; omega)
  · have e0 : sh0 I1 0 = I1 := by
      unfold sh0
      have : (fun y => if y < 0 then (-1 : Int32) else I1 30 y) = I1 30 := funext fun y => if_neg (Nat.not_lt_zero y)
      rw [this]
      exact zW_self I1 30
    rw [e0] at hloop
    have i2 : ∀ a b, a ≠ 30 → sh0 I1 4 a b = I1 a b := fun a b ha => by
      unfold sh0
      rw [zW_n _ _ _ _ ha]
    have i230 : ∀ k, k < 4 → sh0 I1 4 30 k = -1 := fun k hk => by
      unfold sh0
      rw [zW_e]
      exact if_pos hk
    have h37 : sh0 I1 4 0 37 = nI 0 := by rw [i2 _ _ (by decide), i1 _ _ (by omega)]; rfl
    have hcur : curM (sh0 I1 4) (6, 1, 2, 1) (fun _ => []) := by
      refine ⟨⟨?_, ?_, ?_, ?_⟩, fun k hk => ⟨?_, fun i w hw => by simp at hw⟩⟩
      · rw [i2 _ _ (by decide)]; exact i11
      · rw [i2 _ _ (by decide)]; exact i12
      · rw [i2 _ _ (by decide)]; exact i13
      · rw [i2 _ _ (by decide)]; exact i14
      · rw [i2 _ _ (by decide), i1 _ _ (by omega)]; rfl
    have hrun : gX12_init_J1 0 (mH (sh0 I1 4) J0) = some (mH (mkeep (sh0 I1 4) 0) J0) := by
      unfold gX12_init_J1
      rw [keepSnap_ok _ _ 0 (by omega) h37, zbV_s]
    have ko : ∀ a b, a ≠ 29 → ¬ (a = 0 ∧ b = 36) → mkeep (sh0 I1 4) 0 a b = sh0 I1 4 a b := fun a b h1 h2 => mkeep_o _ _ _ _ h1 h2
    refine ⟨mkeep (sh0 I1 4) 0, J0, hloop.trans hrun, ⟨⟨?_, ?_, fun j hj => ?_⟩, ⟨⟨?_, ?_, ?_, ?_⟩, fun k hk => ⟨?_, fun i w hw => by simp at hw⟩⟩⟩, ⟨?_, fun k hk => absurd hk (Nat.not_lt_zero k)⟩, fun k hk => ⟨fun _ => ?_, fun s hs => by cases hs⟩, ?_, ?_⟩
    · rw [ko _ _ (by decide) (by omega)]; exact h37
    · show mkeep (sh0 I1 4) 0 0 36 = nI (0 + 1)
      unfold mkeep
      exact if_pos ⟨rfl, rfl⟩
    · have : j = 0 := by
        have hj' : j ≤ 0 := hj
        omega
      subst this
      exact keep_snap (by show (1 : Nat) ≤ 1; omega) (fun k hk => by show ([] : List Wd).length ≤ 60; simp) hcur
    · rw [ko _ _ (by decide) (by omega)]; exact hcur.1.1
    · rw [ko _ _ (by decide) (by omega)]; exact hcur.1.2.1
    · rw [ko _ _ (by decide) (by omega)]; exact hcur.1.2.2.1
    · rw [ko _ _ (by decide) (by omega)]; exact hcur.1.2.2.2
    · rw [ko _ _ (by decide) (by omega)]; exact (hcur.2 k hk).1
    · rw [ko _ _ (by decide) (by omega), i2 _ _ (by decide), i1 _ _ (by omega)]; rfl
    · rw [ko _ _ (by decide) (by omega)]; exact i230 k hk
    · rw [ko _ _ (by decide) (by omega), i2 _ _ (by decide), i1 _ _ (by omega)]
    · rw [ko _ _ (by decide) (by omega), i2 _ _ (by decide), i1 _ _ (by omega)]
  · intro k hk rr
    show gX12_init_L2 0 (gX12_init_J1 0) rr (nI k) (mH (sh0 I1 k) J0) = rr (nI (k + 1)) (mH (sh0 I1 (k + 1)) J0)
    have hs : zU (sh0 I1 k) 30 k (-1) = sh0 I1 (k + 1) := by
      unfold sh0
      refine zU_WW _ _ _ _ _ _ (fun b => ?_)
      by_cases h1 : b = k
      · rw [if_pos h1, if_pos (by omega)]
      · rw [if_neg h1]
        by_cases h2 : b < k
        · rw [if_pos h2, if_pos (by omega)]
        · rw [if_neg h2, if_neg (by omega)]
    unfold gX12_init_L2
    rw [if_neg (show ¬ (4 : Int32) ≤ nI k from zge_n (b := 4) hk (by omega)), zlt_, mR_38, zob_s, min_ (mL_30 _ _) hk (by omega), zg_1, zlt_, zx_nI (by omega), msI, hs, ← nI_sc]
  · intro rr
    show gX12_init_L2 0 (gX12_init_J1 0) rr (nI 4) _ = _
    unfold gX12_init_L2
    rw [if_pos (show (4 : Int32) ≤ nI 4 from Int32.le_refl _)]
/-- the class's cells at the start -/
def xB2 : Zh := zA (zA (zA ze0 11 9) 2 4) 0 6
def xB3 : Zh := zsI (zsI (zsI (zsI (zsI (zsI xB2 2 0 6) 2 1 1) 2 2 2) 2 3 1) 2 4 64) 2 5 6
def xB4 : Zh := zsI (zsI (zsR (zA (zsR (zA xB3 22 21) 1 0 (some 3)) 25 84) 1 1 (some 4)) 1 2 0) 1 3 0
def xB5 : Zh := zsR xB4 3 0 (some 2)
def xB6 : Zh := zsR (zsR (zsR (zA (zA (zA (zA xB5 8 3) 20 0) 20 0) 20 0) 5 0 (some 6)) 5 1 (some 7)) 5 2 (some 8)
def xB7 : Zh := zsR (zsR (zsR (zsR xB6 4 0 (some 5)) 4 1 (some 5)) 4 2 (some 5)) 4 3 (some 5)
def xB8 : Zh := zsR xB7 0 0 (some 1)
def xB9 : Zh := zsR (zA xB8 23 6) 0 1 (some 9)
def xB10 : Zh := zsR (zA xB9 24 4) 0 2 (some 10)
def xB11 : Zh := zsR (zsI (zA xB10 9 1) 11 0 0) 0 3 (some 11)
def xF : Zh := zsR (zsR (zsR (zsI (zsI xB11 0 4 0) 0 5 0) 0 6 none) 0 7 none) 0 8 none
theorem init_X : gX11_init (zA ze0 11 9) 0 = some xF := by
  have k21 : zok 21 = true := by decide
  have k84 : zok 84 = true := by decide
  have k0 : zok 0 = true := by decide
  have k6 : zok 6 = true := by decide
  have k4 : zok 4 = true := by decide
  have x21 : zx 21 = 21 := by decide
  have x84 : zx 84 = 84 := by decide
  have x0 : zx 0 = 0 := by decide
  have x6 : zx 6 = 6 := by decide
  have x4 : zx 4 = 4 := by decide
  have zb1 : zbl 1 = true := by decide
  have hc : gX0_init xB2 2 6 1 2 1 = some xB3 := by
    have e64 : (1 : Int32) <<< (6 &&& 31) = 64 := by decide
    unfold gX0_init gX0_init_J1
    rw [zlt_, zb1, zg_1, zlt_, zlt_, zlt_, e64, zlt_, zjn_, if_neg (show ¬ (1 : Int32) = 0 by decide)]
    rfl
  have hn : gX8_ofNone xB5 = some (some 5, xB6) := by
    have n5 : zN xB5 = 5 := by decide +kernel
    unfold gX8_ofNone gX8_init
    rw [k0, x0, zlt_, zlt_, zg_1, zlt_, zlt_, zg_1, zlt_, zlt_, zg_1, zlt_, zlt_, zlt_, zlt_, zlt_, zbV_s, n5]
    rfl
  have hl : zlp (fun (_ : Int32) (_ : Zh) => (none : Option (Zh))) (gX2_init_L1 1 (some 5)) zFU 0 xB6 = some xB7 := by
    let f : Nat → Zh := fun t => Nat.rec xB6 (fun t h => zsR h 4 t (some 5)) t
    have hR : ∀ t, zR (f t) 1 1 = some 4 ∧ zL (f t) 4 = 84 := fun t => by
      induction t with
      | zero => exact ⟨by decide +kernel, by decide +kernel⟩
      | succ t ih =>
        refine ⟨?_, ih.2⟩
        show zR (zsR (f t) 4 t (some 5)) 1 1 = _
        rw [zR_s, if_neg (fun hh => absurd hh.1 (by decide))]
        exact ih.1
    have hh := zlp_it (R := Option Zh) (z := fun (_ : Int32) (_ : Zh) => (none : Option (Zh))) (F := gX2_init_L1 1 (some 5)) (fun t (F : Int32 → Zh → Option Zh) => F (nI t) (f t)) (some (f 4)) 4 ?_ ?_ zFU (by unfold zFU; omega)
    · exact hh
    · intro t ht rr
      obtain ⟨h1, h2⟩ := hR t
      show gX2_init_L1 1 (some 5) rr (nI t) (f t) = rr (nI (t + 1)) (zsR (f t) 4 t (some 5))
      generalize f t = G at *
      have j : zin (nI t) 84 = true := zin_nI (by omega) (by omega)
      unfold gX2_init_L1
      rw [if_neg (show ¬ (4 : Int32) ≤ nI t from zge_n (b := 4) ht (by omega)), zlt_, h1, zob_s, h2, j, zg_1, zlt_, zx_nI (by omega), ← nI_sc]
    · intro rr
      show gX2_init_L1 1 (some 5) rr (nI 4) _ = _
      unfold gX2_init_L1
      rw [if_pos (show (4 : Int32) ≤ nI 4 from Int32.le_refl _)]
  have hled : gX2_init xB3 1 (some 2) = some xB7 := by
    have n3 : zN xB3 = 3 := by decide +kernel
    have n4 : zN (zsR (zA xB3 22 21) 1 0 (some 3)) = 4 := by decide +kernel
    have e4 : zsI (zsI (zsR (zA (zsR (zA xB3 22 21) 1 0 (some 3)) 25 84) 1 1 (some 4)) 1 2 0) 1 3 0 = xB4 := rfl
    have r3 : zR xB4 1 0 = some 3 := by decide +kernel
    have l3 : zL xB4 3 = 21 := by decide +kernel
    have j3 : zin 0 21 = true := by decide
    have e5 : zsR xB4 3 0 (some 2) = xB5 := rfl
    unfold gX2_init
    rw [k21, k84, x21, x84, x0, zg_1, zlt_, n3, zlt_, zlt_, zg_1, zlt_, n4, zlt_, zlt_, zlt_, zlt_, e4, zlt_, r3, zob_s, l3, j3, zg_1, zlt_, e5, hn, zbR_s, hl]
  have ht : ∀ h, gX9_init h 11 = some (zsI h 11 0 0) := fun h => by unfold gX9_init; rw [zlt_]
  have n1 : zN (zA ze0 11 9) = 1 := rfl
  have n2 : zN (zA (zA ze0 11 9) 2 4) = 2 := rfl
  have n8 : zN xB8 = 9 := by decide +kernel
  have n9 : zN xB9 = 10 := by decide +kernel
  have n10 : zN xB10 = 11 := by decide +kernel
  have e2 : zA (zA (zA ze0 11 9) 2 4) 0 6 = xB2 := rfl
  have e8 : zsR xB7 0 0 (some 1) = xB8 := rfl
  have e9 : zsR (zA xB8 23 6) 0 1 (some 9) = xB9 := rfl
  have e10 : zsR (zA xB9 24 4) 0 2 (some 10) = xB10 := rfl
  unfold gX11_init
  rw [k6, k4, x6, x4, n1, zlt_, zlt_, n2, zlt_, zlt_, e2, hc, zbV_s, hled, zbV_s, zlt_, e8, zg_1, n8, zlt_, zlt_, zlt_, e9, zg_1, n9, zlt_, zlt_, zlt_, e10, n10, zlt_, zlt_, ht, zbV_s, zlt_, zlt_, zlt_, zlt_, zlt_, zlt_]
  rfl
def oF : Nat → Nat := fun a => if a = 0 then 100 else if a = 1 then 101 else if a = 3 then 103 else if a = 4 then 104 else if a = 9 then 109 else if a = 10 then 110 else if a = 11 then 111 else 1
theorem start_X : stX (seC QTc QRc) xF oF (fun _ => (6, 1, 2, 1), fun _ _ => [], 0, 0) 0 (fun _ => (0, 0, 0, 0)) (fun _ => none) 0 0 := by
  have hN : zN xF = 12 := by decide +kernel
  have fr : ∀ a, a = 2 ∨ a = 5 ∨ a = 6 ∨ a = 7 ∨ a = 8 → frX xF oF a := fun a ha => ⟨by rw [hN]; omega, by
    rcases ha with rfl | rfl | rfl | rfl | rfl <;> rfl⟩
  refine ⟨⟨⟨by decide +kernel, by decide +kernel, by decide +kernel, by decide +kernel⟩, ⟨by decide +kernel, by decide +kernel, by decide +kernel, by decide +kernel⟩, ⟨by decide +kernel, by decide +kernel, by decide +kernel⟩, by rw [hN]; omega, ⟨rfl, rfl, rfl, rfl, rfl, rfl, rfl⟩⟩, ⟨⟨?_, ?_⟩, fun j hj => ⟨⟨2, ?_, fr 2 (by omega), ?_, ?_, ?_, ?_, ?_, ?_⟩, fun k hk => ⟨5, ?_, fr 5 (by omega), 6, 7, 8, ⟨by decide +kernel, by decide +kernel, by decide +kernel⟩, ⟨fr 6 (by omega), fr 7 (by omega), fr 8 (by omega)⟩, ⟨?_, ?_, ?_⟩, fun i w hw => by simp at hw⟩⟩⟩, ⟨?_, fun k hk => absurd hk (Nat.not_lt_zero k)⟩, fun k hk => ⟨fun _ => ?_, fun s hs => by cases hs⟩, ⟨by decide +kernel, by decide +kernel⟩, Or.inl (by decide +kernel), Or.inl (by decide +kernel), Or.inl (by decide +kernel)⟩
  · show zI xF 1 2 = nI 0; decide +kernel
  · show zI xF 1 3 = nI 0; decide +kernel
  · have : j = 0 := by
      have hj' : j ≤ 0 := hj
      omega
    subst this
    decide +kernel
  · show zI xF 2 0 = nI 6; decide +kernel
  · show zI xF 2 1 = nI 1; decide +kernel
  · show zI xF 2 2 = 2; decide +kernel
  · show zI xF 2 3 = 1; decide +kernel
  · show zI xF 2 4 = nI (2 ^ 6); decide +kernel
  · show zI xF 2 5 = nI (chP 6 1); decide +kernel
  · have : j = 0 := by
      have hj' : j ≤ 0 := hj
      omega
    subst this
    rcases (show k = 0 ∨ k = 1 ∨ k = 2 ∨ k = 3 by omega) with rfl | rfl | rfl | rfl <;> decide +kernel
  · show zL xF 6 = 0; decide +kernel
  · show zL xF 7 = 0; decide +kernel
  · show zL xF 8 = 0; decide +kernel
  · show zI xF 0 4 = nI 0; decide +kernel
  · rcases (show k = 0 ∨ k = 1 ∨ k = 2 ∨ k = 3 by omega) with rfl | rfl | rfl | rfl <;> decide +kernel
theorem start_ok : stOk (fun _ => (6, 1, 2, 1), fun _ _ => [], 0, 0) 0 (fun _ => (0, 0, 0, 0)) (fun _ => none) := by
  refine ⟨⟨Nat.le_refl _, by show 0 ≤ 20; omega, fun j _ => ⟨⟨by show 2 ≤ 6; omega, by show 6 ≤ 8; omega, by show 1 ≤ 1; omega, by show (1 : Int) ≤ (2 : Int32).toInt; decide, by show (2 : Int32).toInt ≤ 4; decide, by show (-2 : Int) ≤ (1 : Int32).toInt; decide, by show (1 : Int32).toInt ≤ 2; decide⟩, fun k _ => ⟨by show ([] : List Wd).length ≤ 60; simp, List.Pairwise.nil, fun w hw => by simp at hw⟩⟩⟩, ⟨by omega, fun k hk => absurd hk (Nat.not_lt_zero k)⟩, fun k s hs => by cases hs⟩
/-- what holds after k calls -/
def InvW (k : Nat) (hx hm : Zh) : Prop := ∃ I J o L n w S fa tr, hm = mH I J ∧ stX (seC QTc QRc) hx o L n w S fa tr ∧ stM I L n w S fa tr ∧ stOk L n w S ∧ zN hx ≤ 12 + 40 * k ∧ zS hx ≤ 400 + 9300 * k
theorem inv_s {k : Nat} {hx hm : Zh} (h : InvW k hx hm) : InvW (k + 1) hx hm := by
  obtain ⟨I, J, o, L, n, w, S, fa, tr, h1, h2, h3, h4, h5, h6⟩ := h
  exact ⟨I, J, o, L, n, w, S, fa, tr, h1, h2, h3, h4, by omega, by omega⟩
theorem bdA {a b c d k : Nat} (h5 : a ≤ c + d * k) (h : b ≤ a + d) : b ≤ c + d * (k + 1) := by
  rw [Nat.mul_succ]
  omega
theorem inv_G {α : Type} {k : Nat} {hx hm : Zh} {g1 : Option (α × Zh)} {g2 : Zh → Option (α × Zh)} (h : InvW k hx hm) (H : ∀ {I J o L n w S fa tr}, stX (seC QTc QRc) hx o L n w S fa tr → stM I L n w S fa tr → stOk L n w S → stG (seC QTc QRc) g1 (g2 (mH I J)) hx) : ∃ (r : α) (hx' : Zh) (hm' : Zh), g1 = some (r, hx') ∧ g2 hm = some (r, hm') ∧ InvW (k + 1) hx' hm' := by
  obtain ⟨I, J, o, L, n, w, S, fa, tr, rfl, h2, h3, h4, h5, h6⟩ := h
  obtain ⟨r, h', I', J', o', L', n', w', S', fa', tr', a1, a2, a3, a4, a5, a6⟩ := H (J := J) h2 h3 h4
  exact ⟨r, h', mH I' J', a1, a2, I', J', o', L', n', w', S', fa', tr', rfl, a3, a4, a5, bdA h5 a6.1, bdA h6 a6.2⟩
theorem inv_R {α : Type} {k : Nat} {hx hm : Zh} {g1 : Option α} {g2 : Zh → Option α} (h : InvW k hx hm) (H : ∀ {I J o L n w S fa tr}, stX (seC QTc QRc) hx o L n w S fa tr → stM I L n w S fa tr → stOk L n w S → ∃ r, g1 = some r ∧ g2 (mH I J) = some r) : ∃ (r : α), g1 = some r ∧ g2 hm = some r ∧ InvW (k + 1) hx hm := by
  have hs := inv_s h
  obtain ⟨I, J, o, L, n, w, S, fa, tr, rfl, h2, h3, h4, h5, h6⟩ := h
  obtain ⟨r, a1, a2⟩ := H (J := J) h2 h3 h4
  exact ⟨r, a1, a2, hs⟩
theorem all_ok : zAll InvW := by
  refine ⟨?_, ?_, ?_, ?_, ?_, ?_, ?_, ?_, ?_, ?_, ?_, ?_, ?_, ?_, ?_, ?_, ?_, ?_, ?_, ?_, ?_, ?_, ?_, ?_, ?_, ?_, ?_, ?_, ?_, ?_, ?_, ?_, ?_, ?_, ?_, ?_, ?_, ?_, ?_, ?_, ?_, ?_, ?_, ?_⟩
  · exact fun k hx hm x1 x2 x3 x4 h2 _ h => inv_G (g2 := fun y => gX12_chain y 0 x1 x2 x3 x4) h (fun p q s => chain_st p q s x1 x2 x3 x4 h2)
  · exact fun k hx hm x1 x2 _ h => inv_R (g2 := fun y => gX12_act y 0 x1 x2) h (fun p q s => act_st p q s x1 x2)
  · exact fun k hx hm x1 _ h => inv_R (g2 := fun y => gX12_turned y 0 x1) h (fun p q s => turned_st p q s x1)
  · exact fun k hx hm x1 x2 _ h => inv_G (g2 := fun y => gX12_size y 0 x1 x2) h (fun p q s => size_st p q s x1 x2)
  · exact fun k hx hm x1 x2 x3 _ h => inv_G (g2 := fun y => gX12_head y 0 x1 x2 x3) h (fun p q s => head_st p q s x1 x2 x3)
  · exact fun k hx hm x1 x2 x3 x4 _ h => inv_G (g2 := fun y => gX12_entry y 0 x1 x2 x3 x4) h (fun p q s => entry_st QRc_ok p q s x1 x2 x3 x4)
  · exact fun k hx hm x1 x2 x3 _ h => inv_G (g2 := fun y => gX12_poly y 0 x1 x2 x3) h (fun p q s => poly_st QRc_ok p q s x1 x2 x3)
  · exact fun k hx hm x1 x2 x3 _ h => inv_G (g2 := fun y => gX12_above y 0 x1 x2 x3) h (fun p q s => above_st QRc_ok p q s x1 x2 x3)
  · exact fun k hx hm x1 x2 x3 _ h => inv_G (g2 := fun y => gX12_often y 0 x1 x2 x3) h (fun p q s => often_st QRc_ok p q s x1 x2 x3)
  · exact fun k hx hm x1 x2 _ h => inv_G (g2 := fun y => gX12_whole y 0 x1 x2) h (fun p q s => whole_st QRc_ok p q s x1 x2)
  · exact fun k hx hm x1 x2 x3 _ h => inv_G (g2 := fun y => gX12_power y 0 x1 x2 x3) h (fun p q s => power_st QRc_ok p q s x1 x2 x3)
  · exact fun k hx hm x1 x2 _ h => inv_G (g2 := fun y => gX12_powerOf y 0 x1 x2) h (fun p q s => powerOf_st QRc_ok p q s x1 x2)
  · exact fun k hx hm x1 x2 x3 x4 _ h => inv_G (g2 := fun y => gX12_rest y 0 x1 x2 x3 x4) h (fun p q s => rest_st p q s x1 x2 x3 x4)
  · exact fun k hx hm x1 x2 x3 x4 x5 x6 _ h => inv_G (g2 := fun y => gX12_seen y 0 x1 x2 x3 x4 x5 x6) h (fun p q s => seen_st p q s x1 x2 x3 x4 x5 x6)
  · exact fun k hx hm x1 x2 x3 x4 _ h => inv_G (g2 := fun y => gX12_weights y 0 x1 x2 x3 x4) h (fun p q s => weights_st p q s x1 x2 x3 x4)
  · exact fun k hx hm x1 x2 x3 x4 _ h => inv_G (g2 := fun y => gX12_weightsOf y 0 x1 x2 x3 x4) h (fun p q s => weightsOf_st p q s x1 x2 x3 x4)
  · exact fun k hx hm x1 x2 _ h => inv_R (g2 := fun y => gX12_weight y 0 x1 x2) h (fun p q s => weight_st p q s x1 x2)
  · exact fun k hx hm x1 x2 x3 x4 _ h => inv_R (g2 := fun y => gX12_rowEntry y 0 x1 x2 x3 x4) h (fun p q s => rowEntry_st p q s x1 x2 x3 x4)
  · exact fun k hx hm x1 x2 x3 _ h => inv_G (g2 := fun y => gX12_unlike y 0 x1 x2 x3) h (fun p q s => unlike_st p q s x1 x2 x3)
  · exact fun k hx hm x1 x2 x3 _ h => inv_G (g2 := fun y => gX12_ice y 0 x1 x2 x3) h (fun p q s => ice_st p q s x1 x2 x3)
  · exact fun k hx hm x1 x2 _ h => inv_G (g2 := fun y => gX12_walls y 0 x1 x2) h (fun p q s => walls_st p q s x1 x2)
  · exact fun k hx hm x1 x2 x3 _ h => inv_G (g2 := fun y => gX12_exchange y 0 x1 x2 x3) h (fun p q s => exchange_st p q s x1 x2 x3)
  · exact fun k hx hm x1 x2 x3 x4 x5 _ h => inv_G (g2 := fun y => gX12_add y 0 x1 x2 x3 x4 x5) h (fun p q s => add_st p q s x1 x2 x3 x4 x5)
  · exact fun k hx hm x1 _ h => inv_G (g2 := fun y => gX12_clear y 0 x1) h (fun p q s => clear_st p q s x1)
  · exact fun k hx hm x1 _ h => inv_G (g2 := fun y => gX12_asChain y 0 x1) h (fun p q s => asChain_st p q s x1)
  · exact fun k hx hm x1 x2 x3 x4 _ h => inv_G (g2 := fun y => gX12_join y 0 x1 x2 x3 x4) h (fun p q s => join_st p q s x1 x2 x3 x4)
  · exact fun k hx hm x1 x2 x3 _ h => inv_G (g2 := fun y => gX12_shift y 0 x1 x2 x3) h (fun p q s => shift_st p q s x1 x2 x3)
  · exact fun k hx hm x1 x2 x3 _ h => inv_R (g2 := fun y => gX12_word y 0 x1 x2 x3) h (fun p q s => word_st p q s x1 x2 x3)
  · exact fun k hx hm x1 _ h => inv_R (g2 := fun y => gX12_words y 0 x1) h (fun p q s => words_st p q s x1)
  · exact fun k hx hm x1 x2 _ h => inv_G (g2 := fun y => gX12_bracket y 0 x1 x2) h (fun p q s => bracket_st p q s x1 x2)
  · exact fun k hx hm x1 _ h => inv_G (g2 := fun y => gX12_kept y 0 x1) h (fun p q s => kept_st p q s x1)
  · exact fun k hx hm _ h => inv_G (g2 := fun y => gX12_undo y 0) h (fun p q s => undo_st p q s)
  · exact fun k hx hm _ h => inv_G (g2 := fun y => gX12_redo y 0) h (fun p q s => redo_st p q s)
  · exact fun k hx hm x1 x2 x3 _ h => inv_G (g2 := fun y => gX12_sheet y 0 x1 x2 x3) h (fun p q s => sheet_st p q s x1 x2 x3)
  · exact fun k hx hm x1 _ h => inv_G (g2 := fun y => gX12_lose y 0 x1) h (fun p q s => lose_st p q s x1)
  · exact fun k hx hm x1 x2 x3 _ h => inv_G (g2 := fun y => gX12_put y 0 x1 x2 x3) h (fun p q s => put_st p q s x1 x2 x3)
  · exact fun k hx hm x1 x2 x3 _ h => inv_G (g2 := fun y => gX12_cell y 0 x1 x2 x3) h (fun p q s => cell_st p q s x1 x2 x3)
  · exact fun k hx hm x1 x2 x3 x4 x5 _ h => inv_G (g2 := fun y => gX12_copy y 0 x1 x2 x3 x4 x5) h (fun p q s => copy_st p q s x1 x2 x3 x4 x5)
  · exact fun k hx hm x1 _ h => inv_G (g2 := fun y => gX12_tell y 0 x1) h (fun p q s => tell_st p q s x1)
  · exact fun k hx hm x1 _ h => inv_G (g2 := fun y => gX12_name y 0 x1) h (fun p q s => name_st p q s x1)
  · exact fun k hx hm x1 x2 _ h => inv_G (g2 := fun y => gX12_as y 0 x1 x2) h (fun p q s => as_st p q s x1 x2)
  · exact fun k hx hm _ h => inv_R (g2 := fun y => gX12_trace y 0) h (fun p q s => trace_st p q)
  · exact fun k hx hm _ h => inv_R (g2 := fun y => gX12_fault y 0) h (fun p q s => fault_st p q)
  · exact fun k hx hm x1 _ h => inv_R (g2 := fun y => gX12_many y 0 x1) h (fun p q s => many_st p q s x1)
theorem bd_ok : zBd InvW := fun k hx hm hk h => by
  obtain ⟨I, J, o, L, n, w, S, fa, tr, rfl, h2, h3, h4, h5, h6⟩ := h
  have hK : zK (mH I J) 0 = 12 := (by decide +kernel : (mB33.2.2.1 0).1 = 12)
  have hN : zN (mH I J) = 34 := rfl
  have hS : zS (mH I J) = 157735 := rfl
  have e1 := h2.1.2.2.2.1
  have b1 : zN hx + zN (mH I J) ≤ (12 + 40 * k) + 34 := Nat.add_le_add h5 (Nat.le_of_eq hN)
  have b2 : zS hx + zS (mH I J) ≤ (400 + 9300 * k) + 157735 := Nat.add_le_add h6 (Nat.le_of_eq hS)
  refine ⟨⟨Nat.lt_of_lt_of_le (by decide) e1, h2.1.2.2.1.2.2⟩, ⟨?_, hK⟩, ?_, ?_⟩
  · rw [hN]; decide
  · clear b2 hS hN hK h2 h3 h4 e1
    generalize zN hx + zN (mH I J) = z at *
    omega
  · clear b1 hS hN hK h2 h3 h4 e1
    generalize zS hx + zS (mH I J) = z at *
    omega
theorem start_all : ∃ hx hm, gX11_init (zA ze0 11 9) 0 = some hx ∧ gX12_init (zA ze0 12 43) 0 = some hm ∧ InvW 0 hx hm := by
  obtain ⟨I, J, m1, m2⟩ := init_M
  have hN : zN xF = 12 := by decide +kernel
  have hS : zS xF = 138 := by decide +kernel
  exact ⟨xF, mH I J, init_X, m1, I, J, oF, _, _, _, _, _, _, rfl, start_X, m2, start_ok, by rw [hN]; omega, by rw [hS]; omega⟩
