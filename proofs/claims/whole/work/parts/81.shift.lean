/-! shift -/
def rotN (N k b : Nat) : Nat := (b * 2 ^ (k % N) + b / 2 ^ (N - k % N)) % 2 ^ N
theorem rot_fin : (List.range 9).all (fun N => Nat.ble N 1 || (List.range (2 ^ N)).all (fun b => okN (sX0_onward (0, 0, 0) (cT N 0 0 0) 0 b) (rotN N 1 b) && okN (sX0_onward (0, 0, 0) (cT N 1 0 0) 0 b) (rotN N 1 b) && (List.range 8).all (fun k => okN (sX12_shifted (0, 0, 0) (rT N 0 0 0) 0 b k) (rotN N k b) && okN (sX12_shifted (0, 0, 0) (rT N 1 0 0) 0 b k) (rotN N k b) && Nat.beq (rotN N 1 (rotN N k b)) (rotN N (k + 1) b) && Nat.beq (rotN N (N - k % N) (rotN N k b)) b))) = true := by decide +kernel
theorem rot_all {N r b k : Nat} (h2 : 2 ≤ N) (hN : N ≤ 8) (hr : r ≤ 1) (hb : b < 2 ^ N) (hk : k < 8) : okN (sX0_onward (0, 0, 0) (cT N r 0 0) 0 b) (rotN N 1 b) = true ∧ okN (sX12_shifted (0, 0, 0) (rT N r 0 0) 0 b k) (rotN N k b) = true ∧ rotN N 1 (rotN N k b) = rotN N (k + 1) b ∧ rotN N (N - k % N) (rotN N k b) = b := by
  have h1 := List.all_eq_true.mp rot_fin N (List.mem_range.mpr (by omega))
  rw [sy_ble_f (show ¬ N ≤ 1 by omega), Bool.false_or] at h1
  have h3 := List.all_eq_true.mp h1 b (List.mem_range.mpr hb)
  simp only [Bool.and_eq_true] at h3
  have h4 := List.all_eq_true.mp h3.2 k (List.mem_range.mpr hk)
  simp only [Bool.and_eq_true] at h4
  rcases (show r = 0 ∨ r = 1 by omega) with rfl | rfl
  · exact ⟨h3.1.1, h4.1.1.1, Nat.eq_of_beq_eq_true h4.1.2, Nat.eq_of_beq_eq_true h4.2⟩
  · exact ⟨h3.1.2, h4.1.1.2, Nat.eq_of_beq_eq_true h4.1.2, Nat.eq_of_beq_eq_true h4.2⟩
theorem rot_lt (N k b : Nat) : rotN N k b < 2 ^ N := Nat.mod_lt _ (Nat.two_pow_pos N)
theorem rot_0 {N b : Nat} (h2 : 2 ≤ N) (hb : b < 2 ^ N) : rotN N 0 b = b := by
  unfold rotN
  rw [Nat.zero_mod, Nat.pow_zero, Nat.mul_one, Nat.sub_zero, Nat.div_eq_of_lt hb, Nat.add_zero, Nat.mod_eq_of_lt hb]
theorem onward_ok {h : Zh} {c N r : Nat} {e d : Int32} (hc : chAt h c N r e d) (h2 : 2 ≤ N) (hN : N ≤ 8) (hr : r ≤ 1) (f : Nat) (hf : f < 2 ^ N) : gX0_onward h c (nI f) = some (nI (rotN N 1 f)) :=
  sm_okN (sX0_onward_ok (inj_add c) (cT_ok hc hN hr (fun v hh => by omega) (fun v hh => by omega) (by decide) (by decide)) (show yA (fun a => c + a) c 0 from rfl) (nI_yI f)) (rot_all h2 hN hr hf (k := 0) (by omega)).1
theorem shifted_ok {h : Zh} {N r : Nat} {e d : Int32} (hc : mcAt h N r e d) (h2 : 2 ≤ N) (hN : N ≤ 8) (hr : r ≤ 1) (f : Nat) (hf : f < 2 ^ N) (k : Nat) (hk : k < 8) : gX12_shifted h 0 (nI f) (nI k) = some (nI (rotN N k f)) :=
  sm_okN (sX12_shifted_ok (fun _ _ hh => hh) (rT_ok hc hN hr (fun v hh => by omega) (fun v hh => by omega) (by decide) (by decide)) (show yA (fun a => a) 0 0 from rfl) (nI_yI f) (nI_yI k)) (rot_all h2 hN hr hf hk).2.1
/-- a word within a chain of N places, and shifted -/
abbrev win (N v : Nat) : Prop := v / 256 < 2 ^ N ∧ v % 256 < 2 ^ N
def rotW (N k v : Nat) : Nat := 256 * rotN N k (v / 256) + rotN N k (v % 256)
theorem rotW_lt {N k v : Nat} (hN : N ≤ 8) : rotW N k v < 65536 ∧ rotW N k v / 256 = rotN N k (v / 256) ∧ rotW N k v % 256 = rotN N k (v % 256) := by
  have h1 := rot_lt N k (v / 256)
  have h2 := rot_lt N k (v % 256)
  have : 2 ^ N ≤ 256 := Nat.pow_le_pow_right (by decide) hN
  unfold rotW
  omega
theorem rotW_inj {N k v w : Nat} (h2 : 2 ≤ N) (hN : N ≤ 8) (hk : k < 8) (hv : win N v) (hw : win N w) (h : rotW N k v = rotW N k w) : v = w := by
  obtain ⟨-, a1, a2⟩ := rotW_lt (N := N) (k := k) (v := v) hN
  obtain ⟨-, b1, b2⟩ := rotW_lt (N := N) (k := k) (v := w) hN
  rw [h] at a1 a2
  have e1 : v / 256 = w / 256 := by
    rw [← (rot_all (r := 0) h2 hN (by omega) hv.1 hk).2.2.2, ← (rot_all (r := 0) h2 hN (by omega) hw.1 hk).2.2.2, ← a1, ← b1]
  have e2 : v % 256 = w % 256 := by
    rw [← (rot_all (r := 0) h2 hN (by omega) hv.2 hk).2.2.2, ← (rot_all (r := 0) h2 hN (by omega) hw.2 hk).2.2.2, ← a2, ← b2]
  omega
theorem or_lt {N x z : Nat} : (x ||| z) < 2 ^ N ↔ x < 2 ^ N ∧ z < 2 ^ N := ⟨fun h => ⟨Nat.lt_of_le_of_lt Nat.left_le_or h, Nat.lt_of_le_of_lt Nat.right_le_or h⟩, fun h => Nat.or_lt_two_pow h.1 h.2⟩
/-- the reference's loop -/
def shwR (N k : Nat) (l : List Wd) : List (Nat × Int64) := l.map (fun w => (rotW N k w.1, w.2.1.toInt64))
def shwI (N k : Nat) (l : List Wd) : List (Nat × Int64) := l.map (fun w => (rotW N k w.1, w.2.2.toInt64))
theorem shift_lp {I : Nat → Nat → Int32} (J : Nat → Nat → Int64) {N r : Nat} {e d : Int32} (hc : mcAt (mH I J) N r e d) (h2 : 2 ≤ N) (h8 : N ≤ 8) (hr : r ≤ 1) {k by' : Nat} {l : List Wd} (hk : k < 5) (hby : by' < 8) (hl : l.length ≤ 60) (hw : ∀ w ∈ l, w.1 < 65536) (hs : sumM I k l) (f g : Nat → Int64) (K : Zh → Option (Int32 × Zh)) : ((∀ w ∈ l, win N w.1) ∧ zlp (fun (_ : Int32) (_ : Zh) => (none : Option (Int32 × Zh))) (gX12_shift_L2 0 (nI k) (nI by') K) zFU (nI (60 * k)) (mH I (wJ J f g)) = K (mH I (wJ J (aL f (shwR N by' l)) (aL g (shwI N by' l))))) ∨ ((¬ ∀ w ∈ l, win N w.1) ∧ ∃ f' g', zlp (fun (_ : Int32) (_ : Zh) => (none : Option (Int32 × Zh))) (gX12_shift_L2 0 (nI k) (nI by') K) zFU (nI (60 * k)) (mH I (wJ J f g)) = some (-3, mH I (wJ J f' g'))) := by
  obtain ⟨s1, s2⟩ := hs
  have hm : ∀ J', mcAt (mH I J') N r e d := fun _ => hc
  have q1 : I 0 1 = nI N := hc.1
  have e60 : (60 : Int32) * nI k = nI (60 * k) := by rw [nI_o 60, pk_mul]
  have e1 : nI (60 * k) + nI l.length = nI (60 * k + l.length) := nI_add _ _
  obtain ⟨sh1, -, -⟩ := shl_fin N h8
  have hsm : ∀ J', gX12_stateMany (mH I J') 0 = some (nI (2 ^ N)) := fun J' => by unfold gX12_stateMany; rw [mI_, q1, sh1]
  have hN256 : 2 ^ N ≤ 256 := Nat.pow_le_pow_right (by decide) h8
  have hgo : ∀ (t i : Nat) (fu : Nat), i + t = l.length → t < fu → (∀ w ∈ l.take i, win N w.1) → ((∀ w ∈ l, win N w.1) ∧ zlp (fun (_ : Int32) (_ : Zh) => (none : Option (Int32 × Zh))) (gX12_shift_L2 0 (nI k) (nI by') K) fu (nI (60 * k + i)) (mH I (wJ J (aL f (shwR N by' (l.take i))) (aL g (shwI N by' (l.take i))))) = K (mH I (wJ J (aL f (shwR N by' l)) (aL g (shwI N by' l))))) ∨ ((¬ ∀ w ∈ l, win N w.1) ∧ ∃ f' g', zlp (fun (_ : Int32) (_ : Zh) => (none : Option (Int32 × Zh))) (gX12_shift_L2 0 (nI k) (nI by') K) fu (nI (60 * k + i)) (mH I (wJ J (aL f (shwR N by' (l.take i))) (aL g (shwI N by' (l.take i))))) = some (-3, mH I (wJ J f' g'))) := by
    intro t
    induction t with
    | zero =>
      intro i fu hi hfu hin
      have : i = l.length := by omega
      subst this
      rw [List.take_length] at hin ⊢
      obtain ⟨fu, rfl⟩ : ∃ f, fu = f + 1 := ⟨fu - 1, by omega⟩
      left
      refine ⟨hin, ?_⟩
      show gX12_shift_L2 0 (nI k) (nI by') K _ (nI (60 * k + l.length)) _ = _
      unfold gX12_shift_L2
      repeat (first | rw [mR_29] | rw [min_ (mL_23 _ _) hk (by omega)] | rw [zx_nI (show k < 2 ^ 31 by omega)] | rw [mI_] | rw [s1] | rw [e60] | rw [e1] | rw [if_pos (Int32.le_refl (nI (60 * k + l.length)))] | rw [zlt_] | rw [zjn_] | rw [zob_s] | rw [zg_1] | rw [zbi_s] | rw [zbI_s] | rw [zbr_s] | rw [zbR_s] | rw [zbV_s] | rw [zbj_s] | rw [zbJ_s] | rw [zcs_s] | rw [zcs_n])
    | succ t ih =>
      intro i fu hi hfu hin
      obtain ⟨fu, rfl⟩ : ∃ f, fu = f + 1 := ⟨fu - 1, by omega⟩
      obtain ⟨w, hwi⟩ := get_some (l := l) (i := i) (by omega)
      obtain ⟨w1, w2, w3⟩ := s2 i w hwi
      have hwk := hw w (List.mem_of_getElem? hwi)
      have hle : ¬ nI (60 * k + l.length) ≤ nI (60 * k + i) := zge_n (by omega) (by omega)
      have hx8 : nI w.1 >>> ((8 : Int32) &&& 31) = nI (w.1 / 256) := by rw [nI_o 8, nI_shr (by omega) (by omega)]
      have hz8 : nI w.1 &&& 255 = nI (w.1 % 256) := by rw [nI_o 255, nI_and, and255]
      have hstart : ∀ (Z : Int32 → Zh → Option (Int32 × Zh)) (J' : Nat → Nat → Int64), gX12_shift_L2 0 (nI k) (nI by') K Z (nI (60 * k + i)) (mH I J') = if nI (w.1 / 256 ||| w.1 % 256) < nI (2 ^ N) then zbi (gX12_shifted (mH I J') 0 (nI (w.1 / 256)) (nI by')) (fun x38 => zbi (gX12_shifted (mH I J') 0 (nI (w.1 % 256)) (nI by')) (fun x39 => zlt ((256 * x38) + x39) (fun x40 => zlt (zR (mH I J') 0 33) (fun r41 => Option.bind r41 (fun a42 => zg (zin x40 (zL (mH I J') a42)) (zlt (zR (mH I J') 0 31) (fun r43 => Option.bind r43 (fun a44 => zg (zin (nI (60 * k + i)) (zL (mH I J') a44)) (zg (zin x40 (zL (mH I J') a42)) (zlt (zsJ (mH I J') a42 (zx x40) ((zJ (mH I J') a42 (zx x40)) + (((zI (mH I J') a44 (zx (nI (60 * k + i)))) : Int32).toInt64))) (fun (h5 : Zh) => zlt (zR h5 0 34) (fun r45 => Option.bind r45 (fun a46 => zg (zin x40 (zL h5 a46)) (zlt (zR h5 0 32) (fun r47 => Option.bind r47 (fun a48 => zg (zin (nI (60 * k + i)) (zL h5 a48)) (zg (zin x40 (zL h5 a46)) (zlt (zsJ h5 a46 (zx x40) ((zJ h5 a46 (zx x40)) + (((zI h5 a48 (zx (nI (60 * k + i)))) : Int32).toInt64))) (fun (h6 : Zh) => Z (nI (60 * k + i) + 1) h6)))))))))))))))))) ) else (some ((-3), mH I J')) := by
        intro Z J'
        unfold gX12_shift_L2
        repeat (first | rw [mR_29] | rw [min_ (mL_23 _ _) hk (by omega)] | rw [zx_nI (show k < 2 ^ 31 by omega)] | rw [mI_] | rw [s1] | rw [e60] | rw [e1] | rw [if_neg hle] | rw [mR_30] | rw [min_ (mL_24 _ _) (show 60 * k + i < 300 by omega) (by omega)] | rw [zx_nI (show 60 * k + i < 2 ^ 31 by omega)] | rw [w1] | rw [hx8] | rw [hz8] | rw [hsm] | rw [nI_or] | rw [zlt_] | rw [zjn_] | rw [zob_s] | rw [zg_1] | rw [zbi_s] | rw [zbI_s] | rw [zbr_s] | rw [zbR_s] | rw [zbV_s] | rw [zbj_s] | rw [zbJ_s] | rw [zcs_s] | rw [zcs_n])
      by_cases hwn : win N w.1
      · have hor : w.1 / 256 ||| w.1 % 256 < 2 ^ N := or_lt.mpr hwn
        obtain ⟨rl, -, -⟩ := rotW_lt (N := N) (k := by') (v := w.1) h8
        have ek : 256 * nI (rotN N by' (w.1 / 256)) + nI (rotN N by' (w.1 % 256)) = nI (rotW N by' w.1) := by rw [nI_o 256, pk_mul, nI_add]; rfl
        have t1 : shwR N by' (l.take (i + 1)) = shwR N by' (l.take i) ++ [(rotW N by' w.1, w.2.1.toInt64)] := by rw [take_sc hwi]; simp [shwR]
        have t2 : shwI N by' (l.take (i + 1)) = shwI N by' (l.take i) ++ [(rotW N by' w.1, w.2.2.toInt64)] := by rw [take_sc hwi]; simp [shwI]
        have hstep : ∀ Z : Int32 → Zh → Option (Int32 × Zh), gX12_shift_L2 0 (nI k) (nI by') K Z (nI (60 * k + i)) (mH I (wJ J (aL f (shwR N by' (l.take i))) (aL g (shwI N by' (l.take i))))) = Z (nI (60 * k + (i + 1))) (mH I (wJ J (aL f (shwR N by' (l.take (i + 1)))) (aL g (shwI N by' (l.take (i + 1)))))) := by
          intro Z
          rw [hstart, if_pos (nI_lt hor (by omega)), shifted_ok (hm _) h2 h8 hr _ hwn.1 _ hby, zbi_s, shifted_ok (hm _) h2 h8 hr _ hwn.2 _ hby]
          repeat (first | rw [ek] | rw [mR_33] | rw [mR_34] | rw [mR_31] | rw [mR_32] | rw [min_ (mL_27 _ _) rl (by omega)] | rw [min_ (mL_28 _ _) rl (by omega)] | rw [min_ (mL_25 _ _) (show 60 * k + i < 300 by omega) (by omega)] | rw [min_ (mL_26 _ _) (show 60 * k + i < 300 by omega) (by omega)] | rw [zx_nI (show 60 * k + i < 2 ^ 31 by omega)] | rw [zx_nI (show rotW N by' w.1 < 2 ^ 31 by omega)] | rw [mI_] | rw [w2] | rw [w3] | rw [msJ] | rw [mJ_] | rw [wJ_27] | rw [wJ_28] | rw [wJ_u27] | rw [wJ_u28] | rw [aL_snoc] | rw [← t1] | rw [← t2] | rw [← nI_sc] | rw [zlt_] | rw [zjn_] | rw [zob_s] | rw [zg_1] | rw [zbi_s] | rw [zbI_s] | rw [zbr_s] | rw [zbR_s] | rw [zbV_s] | rw [zbj_s] | rw [zbJ_s] | rw [zcs_s] | rw [zcs_n])
          rfl
        have := ih (i + 1) fu (by omega) (by omega) (fun v hv => by
          rw [take_sc hwi] at hv
          rcases List.mem_append.mp hv with hv | hv
          · exact hin v hv
          · rw [List.mem_singleton] at hv; subst hv; exact hwn)
        rcases this with ⟨a1, a2⟩ | ⟨a1, f', g', a2⟩
        · exact Or.inl ⟨a1, (hstep _).trans a2⟩
        · exact Or.inr ⟨a1, f', g', (hstep _).trans a2⟩
      · right
        refine ⟨fun hh => hwn (hh w (List.mem_of_getElem? hwi)), _, _, (hstart _ _).trans (if_neg (fun hh => hwn (or_lt.mp ?_)))⟩
        have hb1 : w.1 / 256 ||| w.1 % 256 < 2 ^ 8 := Nat.or_lt_two_pow (by omega) (by omega)
        exact (nI_ltI (by omega) (by omega)).mp hh
  have := hgo l.length 0 zFU (by omega) (by unfold zFU; omega) (fun w hw => by rw [List.take_zero] at hw; cases hw)
  rw [List.take_zero, Nat.add_zero] at this
  have z1 : aL f (shwR N by' []) = f := aL_nil f
  have z2 : aL g (shwI N by' []) = g := aL_nil g
  rw [z1, z2] at this
  exact this
theorem within_ok {h : Zh} {o : Nat → Nat} {a N : Nat} {A : List Wd} (sa : sumX h o a A) (hA : A.length ≤ 60) (kA : ∀ w ∈ A, w.1 < 65536) (h8 : N ≤ 8) : (gX8_within h a (nI (2 ^ N)) = some 1 ∧ ∀ w ∈ A, win N w.1) ∨ (gX8_within h a (nI (2 ^ N)) = some 0 ∧ ¬ ∀ w ∈ A, win N w.1) := by
  obtain ⟨-, ax, ay, az, ⟨a0, a1, a2⟩, -, ⟨la0, la1, la2⟩, wa⟩ := sa
  have hN256 : 2 ^ N ≤ 256 := Nat.pow_le_pow_right (by decide) h8
  unfold gX8_within
  have hgo : ∀ (t i fu : Nat), i + t = A.length → t < fu → (∀ w ∈ A.take i, win N w.1) → (zlp (fun (_ : Int32) => (none : Option (Int32))) (gX8_within_L1 h a (nI (2 ^ N))) fu (nI i) = some 1 ∧ ∀ w ∈ A, win N w.1) ∨ (zlp (fun (_ : Int32) => (none : Option (Int32))) (gX8_within_L1 h a (nI (2 ^ N))) fu (nI i) = some 0 ∧ ¬ ∀ w ∈ A, win N w.1) := by
    intro t
    induction t with
    | zero =>
      intro i fu hi hfu hin
      have : i = A.length := by omega
      subst this
      rw [List.take_length] at hin
      obtain ⟨fu, rfl⟩ : ∃ f, fu = f + 1 := ⟨fu - 1, by omega⟩
      left
      refine ⟨?_, hin⟩
      show gX8_within_L1 h a (nI (2 ^ N)) _ (nI A.length) = _
      unfold gX8_within_L1
      rw [zlt_, a0, zob_s, la0, if_pos (show (Int32.ofNat A.length : Int32) ≤ nI A.length from Int32.le_refl _)]
    | succ t ih =>
      intro i fu hi hfu hin
      obtain ⟨fu, rfl⟩ : ∃ f, fu = f + 1 := ⟨fu - 1, by omega⟩
      obtain ⟨w, hwi⟩ := get_some (l := A) (i := i) (by omega)
      obtain ⟨w1, w2, w3⟩ := wa i w hwi
      have hwk := kA w (List.mem_of_getElem? hwi)
      have hx8 : nI w.1 >>> ((8 : Int32) &&& 31) = nI (w.1 / 256) := by rw [nI_o 8, nI_shr (by omega) (by omega)]
      have hz8 : nI w.1 &&& 255 = nI (w.1 % 256) := by rw [nI_o 255, nI_and, and255]
      have ia : zin (nI i) (zL h ax) = true := by rw [la0]; exact zin_nI (by omega) (by omega)
      have hle : ¬ (Int32.ofNat A.length : Int32) ≤ nI i := zge_n (b := A.length) (by omega) (by omega)
      have hstep : ∀ Z : Int32 → Option Int32, gX8_within_L1 h a (nI (2 ^ N)) Z (nI i) = if nI (2 ^ N) ≤ nI (w.1 / 256) then some 0 else if nI (w.1 % 256) < nI (2 ^ N) then Z (nI (i + 1)) else some 0 := by
        intro Z
        unfold gX8_within_L1
        rw [zlt_, a0, zob_s, la0, if_neg hle]
        repeat (first | rw [a0] | rw [ia] | rw [zx_nI (show i < 2 ^ 31 by omega)] | rw [w1] | rw [hx8] | rw [hz8] | rw [← nI_sc] | rw [zlt_] | rw [zjn_] | rw [zob_s] | rw [zg_1] | rw [zbi_s] | rw [zbI_s] | rw [zbr_s] | rw [zbR_s] | rw [zbV_s] | rw [zbj_s] | rw [zbJ_s] | rw [zcs_s] | rw [zcs_n])
      show (gX8_within_L1 h a (nI (2 ^ N)) _ (nI i) = some 1 ∧ _) ∨ (gX8_within_L1 h a (nI (2 ^ N)) _ (nI i) = some 0 ∧ _)
      rw [hstep]
      by_cases h1 : w.1 / 256 < 2 ^ N
      · rw [if_neg (zge_n h1 (by omega))]
        by_cases h2 : w.1 % 256 < 2 ^ N
        · rw [if_pos (nI_lt h2 (by omega))]
          exact ih (i + 1) fu (by omega) (by omega) (fun v hv => by
            rw [take_sc hwi] at hv
            rcases List.mem_append.mp hv with hv | hv
            · exact hin v hv
            · rw [List.mem_singleton] at hv; subst hv; exact ⟨h1, h2⟩)
        · rw [if_neg (nI_nlt (by omega) (by omega))]
          exact Or.inr ⟨rfl, fun hh => h2 (hh w (List.mem_of_getElem? hwi)).2⟩
      · rw [if_pos (nI_le (by omega) (by omega))]
        exact Or.inr ⟨rfl, fun hh => h1 (hh w (List.mem_of_getElem? hwi)).1⟩
  exact hgo A.length 0 zFU (by omega) (by unfold zFU; omega) (fun w hw => by rw [List.take_zero] at hw; cases hw)
/-- the rolled keys with their places -/
def rolC (N k : Nat) (A : List Wd) : Nat → List Nat
  | 0 => []
  | i + 1 => rolC N k A i ++ (match A[i]? with | some w => [rotW N k w.1 * 4096 + i] | none => [])
theorem rolC_s {N k : Nat} {A : List Wd} {i : Nat} {w : Wd} (h : A[i]? = some w) : rolC N k A (i + 1) = rolC N k A i ++ [rotW N k w.1 * 4096 + i] := by
  show rolC N k A i ++ _ = _
  simp only [h]
theorem rolC_len {N k : Nat} {A : List Wd} : ∀ i, i ≤ A.length → (rolC N k A i).length = i
  | 0, _ => rfl
  | i + 1, hi => by
    obtain ⟨w, hw⟩ := get_some (l := A) (i := i) (by omega)
    rw [rolC_s hw, List.length_append, rolC_len i (by omega)]; rfl
theorem rolC_mem {N k : Nat} {A : List Wd} {y : Nat} : ∀ i, i ≤ A.length → y ∈ rolC N k A i → ∃ j w, j < i ∧ A[j]? = some w ∧ y = rotW N k w.1 * 4096 + j
  | 0, _, h => by cases h
  | i + 1, hi, h => by
    obtain ⟨w, hw⟩ := get_some (l := A) (i := i) (by omega)
    rw [rolC_s hw] at h
    rcases List.mem_append.mp h with h | h
    · obtain ⟨j, w', a, b⟩ := rolC_mem i (by omega) h
      exact ⟨j, w', by omega, b⟩
    · rw [List.mem_singleton] at h
      exact ⟨i, w, by omega, hw, h⟩
theorem rolC_pw {N k : Nat} {A : List Wd} (h2 : 2 ≤ N) (h8 : N ≤ 8) (hk : k < 8) (hA : A.length ≤ 60) (pA : A.Pairwise (fun v w => v.1 < w.1)) (hin : ∀ w ∈ A, win N w.1) : ∀ i, i ≤ A.length → (rolC N k A i).Pairwise (fun x y => x / 4096 ≠ y / 4096)
  | 0, _ => List.Pairwise.nil
  | i + 1, hi => by
    obtain ⟨w, hw⟩ := get_some (l := A) (i := i) (by omega)
    rw [rolC_s hw]
    refine List.pairwise_append.mpr ⟨rolC_pw h2 h8 hk hA pA hin i (by omega), List.pairwise_singleton _ _, fun a ha b hb => ?_⟩
    rw [List.mem_singleton] at hb
    subst hb
    obtain ⟨j, w', hj, hw', rfl⟩ := rolC_mem i (by omega) ha
    intro e
    have e1 : rotW N k w'.1 = rotW N k w.1 := by omega
    have e2 := rotW_inj h2 h8 hk (hin w' (List.mem_of_getElem? hw')) (hin w (List.mem_of_getElem? hw)) e1
    have hj' := len_i hw'
    have hi' := len_i hw
    obtain ⟨_, rfl⟩ := List.getElem?_eq_some_iff.mp hw'
    obtain ⟨_, rfl⟩ := List.getElem?_eq_some_iff.mp hw
    have := (List.pairwise_iff_getElem.mp pA) j i hj' hi' hj
    omega
def rgR (A : List Wd) (y : Nat) : Int64 := match A[y % 4096]? with | some a => a.2.1.toInt64 | none => 0
def rgI (A : List Wd) (y : Nat) : Int64 := match A[y % 4096]? with | some a => a.2.2.toInt64 | none => 0
theorem rolC_sum {N k : Nat} {A : List Wd} (hA : A.length ≤ 60) (x : Nat) : ∀ i, i ≤ A.length → sF (sel x (rgR A)) (rolC N k A i) = sAt (shwR N k (A.take i)) x ∧ sF (sel x (rgI A)) (rolC N k A i) = sAt (shwI N k (A.take i)) x
  | 0, _ => ⟨rfl, rfl⟩
  | i + 1, hi => by
    obtain ⟨i1, i2⟩ := rolC_sum (N := N) (k := k) hA x i (by omega)
    obtain ⟨w, hw⟩ := get_some (l := A) (i := i) (by omega)
    have t1 : shwR N k (A.take (i + 1)) = shwR N k (A.take i) ++ [(rotW N k w.1, w.2.1.toInt64)] := by rw [take_sc hw]; simp [shwR]
    have t2 : shwI N k (A.take (i + 1)) = shwI N k (A.take i) ++ [(rotW N k w.1, w.2.2.toInt64)] := by rw [take_sc hw]; simp [shwI]
    have m1 : (rotW N k w.1 * 4096 + i) % 4096 = i := by omega
    have m2 : (rotW N k w.1 * 4096 + i) / 4096 = rotW N k w.1 := by omega
    have v1 : rgR A (rotW N k w.1 * 4096 + i) = w.2.1.toInt64 := by unfold rgR; rw [m1, hw]
    have v2 : rgI A (rotW N k w.1 * 4096 + i) = w.2.2.toInt64 := by unfold rgI; rw [m1, hw]
    rw [rolC_s hw, t1, t2, sF_app, sF_app, sAt_app, sAt_app, i1, i2]
    refine ⟨?_, ?_⟩
    · show _ + ((if (rotW N k w.1 * 4096 + i) / 4096 = x then rgR A (rotW N k w.1 * 4096 + i) else 0) + 0) = _ + ((if rotW N k w.1 = x then w.2.1.toInt64 else 0) + 0)
      rw [m2, v1]
    · show _ + ((if (rotW N k w.1 * 4096 + i) / 4096 = x then rgI A (rotW N k w.1 * 4096 + i) else 0) + 0) = _ + ((if rotW N k w.1 = x then w.2.2.toInt64 else 0) + 0)
      rw [m2, v2]
/-- a word rolled step by step in the class -/
theorem roll_in {h : Zh} {c N r : Nat} {e d : Int32} (hc : chAt h c N r e d) (h2 : 2 ≤ N) (h8 : N ≤ 8) (hr : r ≤ 1) {k x z : Nat} (hk : k < 8) (hx : x < 2 ^ N) (hz : z < 2 ^ N) (K : Int32 → Int32 → Option Zh) : zlp (fun (_ : Int32) (_ : Int32) (_ : Int32) => (none : Option (Zh))) (gX3_roll_L4 (some c) (nI k) h K) zFU (nI x) (nI z) 0 = K (nI (rotN N k x)) (nI (rotN N k z)) := by
  have hh := zlp_it (R := Option Zh) (z := fun (_ : Int32) (_ : Int32) (_ : Int32) => (none : Option (Zh))) (F := gX3_roll_L4 (some c) (nI k) h K) (fun i (F : Int32 → Int32 → Int32 → Option Zh) => F (nI (rotN N i x)) (nI (rotN N i z)) (nI i)) (K (nI (rotN N k x)) (nI (rotN N k z))) k ?_ ?_ zFU (by unfold zFU; omega)
  · rw [rot_0 h2 hx, rot_0 h2 hz] at hh
    exact hh
  · intro i hi rr
    show gX3_roll_L4 (some c) (nI k) h K rr (nI (rotN N i x)) (nI (rotN N i z)) (nI i) = rr (nI (rotN N (i + 1) x)) (nI (rotN N (i + 1) z)) (nI (i + 1))
    unfold gX3_roll_L4
    rw [if_neg (zge_n hi (by omega)), zob_s, onward_ok hc h2 h8 hr _ (rot_lt N i x), zbi_s, onward_ok hc h2 h8 hr _ (rot_lt N i z), zbi_s, (rot_all (r := 0) h2 h8 (by omega) hx (show i < 8 by omega)).2.2.1, (rot_all (r := 0) h2 h8 (by omega) hz (show i < 8 by omega)).2.2.1, nI_sc]
  · intro rr
    show gX3_roll_L4 (some c) (nI k) h K rr _ _ (nI k) = _
    unfold gX3_roll_L4
    rw [if_pos (Int32.le_refl _)]
theorem roll_ok {h : Zh} {o : Nat → Nat} {s p q n : Nat} (hx : mxS h o s p q n) {a : Nat} {A : List Wd} (sa : sumX h o a A) (hA : A.length ≤ 60) (pA : A.Pairwise (fun v w => v.1 < w.1)) (kA : ∀ w ∈ A, w.1 < 65536) {c : Nat} {ch : Ch} (hc : chX h o c ch) (hk : chOk ch) (hin : ∀ w ∈ A, win ch.1 w.1) {k : Nat} (hk8 : k < 8) : ∃ h' o' p' q' n' E, gX3_roll h s (some a) (some c) (nI k) = some h' ∧ mxS h' o' s p' q' n' ∧ zMv (fun t => t = 3) h o h' o' ∧ (zN h' ≤ zN h + 2 ∧ zS h' ≤ zS h + 8192) ∧ mxE h' s E ∧ eS E ∧ E.length ≤ 60 ∧ ∀ x, sAt (eR E) x = sAt (shwR ch.1 k A) x ∧ sAt (eI E) x = sAt (shwI ch.1 k A) x := by
  obtain ⟨N, r, e, d⟩ := ch
  obtain ⟨h2, h8, hr, -⟩ := hk
  have h2 : 2 ≤ N := h2
  have h8 : N ≤ 8 := h8
  have hr : r ≤ 1 := hr
  have hin : ∀ w ∈ A, win N w.1 := hin
  have hN256 : 2 ^ N ≤ 256 := Nat.pow_le_pow_right (by decide) h8
  have ho : ∀ a, a < 5 → o (s + a) = 3 := fun a ha => (hx.1 a ha).2
  obtain ⟨h1, g1, m1, e1, -⟩ := begin_ok h s
  have hx1 := hx.mv m1
  obtain ⟨hh2, o2, p', q', n', g2, hn, hx2, mv2, i2, i2', b1, b2⟩ := makeRoom_ok hx1 (c := A.length) (by omega)
  have sa1 := sa.mv (m1.mv ho) (by omega)
  have sa2 := sa1.mv mv2 (by omega)
  have hc2 := (hc.mv (m1.mv ho) (by omega)).mv mv2 (by omega)
  obtain ⟨-, ⟨-, op⟩, -, ⟨hsp, -⟩, -, ⟨x6, -⟩, -, ⟨lp, -⟩, hnl⟩ := id hx2
  have hn4 : n' ≤ 4096 := by simp at hnl; omega
  -- the rolled keys laid
  have hlay : ∀ (t i : Nat) (g : Zh), i + t = A.length → rwM p' p' hh2 g → hld g p' (rolC N k A i) → ∃ h3, rwM p' p' hh2 h3 ∧ hld h3 p' (rolC N k A A.length) ∧ ∀ (K : Zh → Option Zh) (fu : Nat), t < fu → zlp (fun (_ : Int32) (_ : Zh) => (none : Option (Zh))) (gX3_roll_L5 s (some c) (nI k) a K) fu (nI i) g = K h3 := by
    intro t
    induction t with
    | zero =>
      intro i g hi m q'
      have : i = A.length := by omega
      subst this
      refine ⟨g, m, q', fun K fu hfu => ?_⟩
      obtain ⟨fu, rfl⟩ : ∃ f, fu = f + 1 := ⟨fu - 1, by omega⟩
      show gX3_roll_L5 s (some c) (nI k) a K _ (nI A.length) g = _
      unfold gX3_roll_L5
      rw [count_okX (sa2.mv (m.mv op op) (by omega)), zbi_s, if_pos (Int32.le_refl _)]
    | succ t ih =>
      intro i g hi m q'
      obtain ⟨w, hwi⟩ := get_some (l := A) (i := i) (by omega)
      have hwk := kA w (List.mem_of_getElem? hwi)
      have hwn := hin w (List.mem_of_getElem? hwi)
      have sa3 := sa2.mv (m.mv op op) (by omega)
      have ca := count_okX sa3
      obtain ⟨-, ax, ay, az, ⟨a0, a1, a2⟩, -, ⟨la0, la1, la2⟩, wa⟩ := sa3
      have w1 := (wa i w hwi).1
      have ia : zin (nI i) (zL g ax) = true := by rw [la0]; exact zin_nI (by omega) (by omega)
      have hx8 : nI w.1 >>> ((8 : Int32) &&& 31) = nI (w.1 / 256) := by rw [nI_o 8, nI_shr (by omega) (by omega)]
      have hz8 : nI w.1 &&& 255 = nI (w.1 % 256) := by rw [nI_o 255, nI_and, and255]
      have hch := (hc2.mv (m.mv op op) (by omega)).2
      have g4 : zR g s 4 = some p' := (m.2.2.1 s 4).trans x6
      have ip : zin (nI i) (zL g p') = true := by rw [(m.2.1 p').2, lp]; exact zin_nI (by omega) (by omega)
      have hl := rolC_len (N := N) (k := k) (A := A) i (by omega)
      have rz := rot_lt N k (w.1 % 256)
      have ecode : (((nI (rotN N k (w.1 / 256)) <<< ((8 : Int32) &&& 31)) ||| nI (rotN N k (w.1 % 256))) <<< ((12 : Int32) &&& 31)) ||| nI i = nI (rotW N k w.1 * 4096 + i) := by
        rw [nI_o 8, nI_shl (by omega), nI_or, or256 (by omega), nI_o 12, nI_shl (by omega), nI_or]
        have := Nat.two_pow_add_eq_or_of_lt (i := 12) (b := i) (by omega) (rotW N k w.1)
        show nI (rotW N k w.1 * 2 ^ 12 ||| i) = _
        rw [Nat.mul_comm (rotW N k w.1) (2 ^ 12), ← this]
      have q2 := hld_snoc (rotW N k w.1 * 4096 + i) q'
      rw [← rolC_s hwi, hl] at q2
      obtain ⟨h3, c1, c2, c3⟩ := ih (i + 1) (zsI g p' i (nI (rotW N k w.1 * 4096 + i))) (by omega) (m.tr (rwM.s1 g _ _)) q2
      refine ⟨h3, c1, c2, fun K fu hfu => ?_⟩
      obtain ⟨fu, rfl⟩ : ∃ f, fu = f + 1 := ⟨fu - 1, by omega⟩
      rw [← c3 K fu (by omega)]
      show gX3_roll_L5 s (some c) (nI k) a K _ (nI i) g = _
      generalize zlp (fun (_ : Int32) (_ : Zh) => (none : Option (Zh))) (gX3_roll_L5 s (some c) (nI k) a K) fu = Z
      unfold gX3_roll_L5
      rw [ca, zbi_s, if_neg (zge_n (by omega) (by omega))]
      repeat (first | rw [a0] | rw [ia] | rw [zx_nI (show i < 2 ^ 31 by omega)] | rw [w1] | rw [hx8] | rw [hz8] | rw [zlt_] | rw [zjn_] | rw [zob_s] | rw [zg_1] | rw [zbi_s] | rw [zbI_s] | rw [zbr_s] | rw [zbR_s] | rw [zbV_s] | rw [zbj_s] | rw [zbJ_s] | rw [zcs_s] | rw [zcs_n])
      rw [roll_in hch h2 h8 hr hk8 hwn.1 hwn.2]
      unfold gX3_roll_J3
      repeat (first | rw [g4] | rw [ip] | rw [zx_nI (show i < 2 ^ 31 by omega)] | rw [ecode] | rw [← nI_sc] | rw [zlt_] | rw [zjn_] | rw [zob_s] | rw [zg_1] | rw [zbi_s] | rw [zbI_s] | rw [zbr_s] | rw [zbR_s] | rw [zbV_s] | rw [zbj_s] | rw [zbJ_s] | rw [zcs_s] | rw [zcs_n])
  obtain ⟨h3, m3, q3, k3⟩ := hlay A.length 0 hh2 (by omega) (rwM.rf _ _ _) (fun i x hx => by cases hx)
  have hx3 := hx2.rw m3
  have mv3 := m3.mv op op
  have sa3 := sa2.mv mv3 (by omega)
  have hlen := rolC_len (N := N) (k := k) (A := A) A.length (Nat.le_refl _)
  obtain ⟨h4, ys, g4, ⟨hx4, mv4, z4⟩, i4, q4, yl, ym, yF, yP, yne⟩ := sortPairs_ok hx3 (xs := rolC N k A A.length) (by rw [hlen]; exact hn) (fun y hy => by
    obtain ⟨j, w, hj, hw, rfl⟩ := rolC_mem A.length (Nat.le_refl _) hy
    have := (rotW_lt (N := N) (k := k) (v := w.1) h8).1
    omega) q3
  rw [hlen] at yl g4
  have yne := yne (rolC_pw h2 h8 hk8 hA pA hin A.length (Nat.le_refl _))
  have ylt : ys.Pairwise (fun x y => x / 4096 < y / 4096) := by
    have := List.Pairwise.and yP yne
    exact List.Pairwise.imp (fun {a b} hh => by have h1 := hh.1; have h2 := hh.2; omega) this
  have sa4 := sa3.mv mv4 (by omega)
  have ho4 : ∀ a, a < 5 → o2 (s + a) = 3 := fun a ha => (hx4.1 a ha).2
  have e4 : mxE h4 s [] := mxE_mv (fun a k ha hb => by
    rw [i4 a k (by omega), m3.2.2.2.2 a k (by omega) (by omega)]
    rcases (show a = s ∨ s < a by omega) with rfl | h'
    · exact i2 k
    · exact i2' a k h' (by omega)) e1
  obtain ⟨-, -, -, -, -, ⟨x64, -⟩, -, ⟨lp4, -⟩, -⟩ := id hx4
  have hem : ∀ (t i : Nat) (g : Zh) (E : List (Nat × Int64 × Int64)), i + t = A.length → mxM s h4 g → mxE g s E → eS E → E.length ≤ i → (∀ c ∈ E, ∀ y ∈ ys.drop i, c.1 < y / 4096) → (∀ x, sAt (eR E) x + sF (sel x (rgR A)) (ys.drop i) = sF (sel x (rgR A)) ys ∧ sAt (eI E) x + sF (sel x (rgI A)) (ys.drop i) = sF (sel x (rgI A)) ys) → ∀ fu, t < fu → ∃ h' E', zlp (fun (_ : Int32) (_ : Zh) => (none : Option (Zh))) (gX3_roll_L1 s a) fu (nI i) g = some h' ∧ mxM s h4 h' ∧ mxE h' s E' ∧ eS E' ∧ E'.length ≤ 60 ∧ ∀ x, sAt (eR E') x = sF (sel x (rgR A)) ys ∧ sAt (eI E') x = sF (sel x (rgI A)) ys := by
    intro t
    induction t with
    | zero =>
      intro i g E hi m e' es el hk' hs fu hfu
      have : i = A.length := by omega
      subst this
      obtain ⟨fu, rfl⟩ : ∃ f, fu = f + 1 := ⟨fu - 1, by omega⟩
      refine ⟨g, E, ?_, m, e', es, by omega, fun x => ?_⟩
      · show gX3_roll_L1 s a _ (nI A.length) g = _
        unfold gX3_roll_L1
        rw [count_okX (sa4.mv (m.mv ho4) (by omega)), zbi_s, if_pos (Int32.le_refl _)]
      · obtain ⟨s1, s2⟩ := hs x
        rw [← yl, List.drop_length] at s1 s2
        refine ⟨?_, ?_⟩
        · rw [← s1]; show _ = _ + 0; grind
        · rw [← s2]; show _ = _ + 0; grind
    | succ t ih =>
      intro i g E hi m e' es el hk' hs fu hfu
      obtain ⟨fu, rfl⟩ : ∃ f, fu = f + 1 := ⟨fu - 1, by omega⟩
      obtain ⟨y, hy⟩ := get_some (l := ys) (i := i) (by omega)
      obtain ⟨j, w, hj, hw, rfl⟩ := rolC_mem A.length (Nat.le_refl _) ((ym y).mp (List.mem_of_getElem? hy))
      have hrl := (rotW_lt (N := N) (k := k) (v := w.1) h8).1
      have d1 : (rotW N k w.1 * 4096 + j) / 4096 = rotW N k w.1 := by omega
      have d2 : (rotW N k w.1 * 4096 + j) % 4096 = j := by omega
      have v1 : rgR A (rotW N k w.1 * 4096 + j) = w.2.1.toInt64 := by unfold rgR; rw [d2, hw]
      have v2 : rgI A (rotW N k w.1 * 4096 + j) = w.2.2.toInt64 := by unfold rgI; rw [d2, hw]
      have hdrop := drop_c hy
      have sa5 := sa4.mv (m.mv ho4) (by omega)
      have ca := count_okX sa5
      obtain ⟨-, ax, ay, az, ⟨a0, a1, a2⟩, -, ⟨la0, la1, la2⟩, wa⟩ := sa5
      obtain ⟨-, w2, w3⟩ := wa j w hw
      have ip : zin (nI i) (zL g p') = true := by rw [(m.2.1 p').2, lp4]; exact zin_nI (by omega) (by omega)
      have g5 : zR g s 4 = some p' := (m.2.2.1 s 4).trans x64
      have gv : zI g p' i = nI (rotW N k w.1 * 4096 + j) := (m.2.2.2.2 p' i (by omega)).trans (q4 i _ hy)
      have e12 : nI (rotW N k w.1 * 4096 + j) >>> ((12 : Int32) &&& 31) = nI (rotW N k w.1) := by rw [nI_o 12, nI_shr (by omega) (by omega), d1]
      have e95 : nI (rotW N k w.1 * 4096 + j) &&& 4095 = nI j := by rw [nI_o 4095, nI_and, and4095, d2]
      have iy : zin (nI j) (zL g ay) = true := by rw [la1]; exact zin_nI hj (by omega)
      have iz : zin (nI j) (zL g az) = true := by rw [la2]; exact zin_nI hj (by omega)
      have hlE : ∀ c ∈ E, c.1 < rotW N k w.1 := fun c hc => by
        have := hk' c hc _ (by rw [hdrop]; exact List.mem_cons_self)
        rwa [d1] at this
      have hge : ∀ z ∈ ys.drop (i + 1), rotW N k w.1 < z / 4096 := fun z hz => by
        have hp : (ys.drop i).Pairwise (fun x y => x / 4096 < y / 4096) := List.Pairwise.sublist (List.drop_sublist i ys) ylt
        rw [hdrop] at hp
        have := (List.pairwise_cons.mp hp).1 z hz
        rwa [d1] at this
      obtain ⟨g6, c1, c2, c3, -⟩ := emit_ok (hx4.mv m) e' (by omega) (rotW N k w.1) w.2.1.toInt64 w.2.2.toInt64
      have hlen' := emL_len (rotW N k w.1) w.2.1.toInt64 w.2.2.toInt64
      have := ih (i + 1) g6 _ (by omega) (m.tr c2) c3 (eS_em es hrl hlE _ _) (by rw [List.length_append]; omega) (fun c hc z hz => by
        rcases List.mem_append.mp hc with hc | hc
        · exact Nat.lt_trans (hlE c hc) (hge z hz)
        · rw [(emL_mem hc).1]; exact hge z hz) (fun x => by
        obtain ⟨s1, s2⟩ := hs x
        rw [eR_app, eI_app, sAt_app, sAt_app, (sAt_em _ _ _ _).1, (sAt_em _ _ _ _).2, ← s1, ← s2, hdrop]
        show _ + (if rotW N k w.1 = x then w.2.1.toInt64 else 0) + sF (sel x (rgR A)) (ys.drop (i + 1)) = _ + ((if (rotW N k w.1 * 4096 + j) / 4096 = x then rgR A (rotW N k w.1 * 4096 + j) else 0) + sF (sel x (rgR A)) (ys.drop (i + 1))) ∧ _ + (if rotW N k w.1 = x then w.2.2.toInt64 else 0) + sF (sel x (rgI A)) (ys.drop (i + 1)) = _ + ((if (rotW N k w.1 * 4096 + j) / 4096 = x then rgI A (rotW N k w.1 * 4096 + j) else 0) + sF (sel x (rgI A)) (ys.drop (i + 1)))
        rw [d1, v1, v2]
        exact ⟨by grind, by grind⟩) fu (by omega)
      obtain ⟨h', E', k1, k2⟩ := this
      refine ⟨h', E', ?_, k2⟩
      rw [← k1]
      show gX3_roll_L1 s a _ (nI i) g = _
      generalize zlp (fun (_ : Int32) (_ : Zh) => (none : Option (Zh))) (gX3_roll_L1 s a) fu = Z
      unfold gX3_roll_L1
      rw [ca, zbi_s, if_neg (zge_n (by omega) (by omega))]
      repeat (first | rw [g5] | rw [ip] | rw [zx_nI (show i < 2 ^ 31 by omega)] | rw [gv] | rw [e95] | rw [e12] | rw [a1] | rw [a2] | rw [iy] | rw [iz] | rw [zx_nI (show j < 2 ^ 31 by omega)] | rw [w2] | rw [w3] | rw [c1] | rw [← nI_sc] | rw [zlt_] | rw [zjn_] | rw [zob_s] | rw [zg_1] | rw [zbi_s] | rw [zbI_s] | rw [zbr_s] | rw [zbR_s] | rw [zbV_s] | rw [zbj_s] | rw [zbJ_s] | rw [zcs_s] | rw [zcs_n])
  obtain ⟨h', E, c1, c2, c3, c4, c5, c6⟩ := hem A.length 0 h4 [] (by omega) (mxM.rf s h4) e4 ⟨List.Pairwise.nil, fun c hc => by cases hc⟩ (Nat.zero_le _) (fun c hc => by cases hc) (fun x => by
    rw [List.drop_zero]
    refine ⟨?_, ?_⟩
    · show (0 : Int64) + _ = _; grind
    · show (0 : Int64) + _ = _; grind) zFU (by unfold zFU; omega)
  refine ⟨h', o2, p', q', n', E, ?_, hx4.mv c2, (((m1.mv ho).tr mv2).tr mv3).tr (mv4.tr (c2.mv ho4)), ⟨?_, ?_⟩, c3, c4, c5, fun x => ?_⟩
  · unfold gX3_roll
    repeat (first | rw [g1] | rw [count_okX sa1] | rw [g2] | rw [zlt_] | rw [zjn_] | rw [zob_s] | rw [zg_1] | rw [zbi_s] | rw [zbI_s] | rw [zbr_s] | rw [zbR_s] | rw [zbV_s] | rw [zbj_s] | rw [zbJ_s] | rw [zcs_s] | rw [zcs_n])
    refine Eq.trans (k3 (gX3_roll_J2 s a) zFU (by unfold zFU; omega)) ?_
    unfold gX3_roll_J2
    repeat (first | rw [count_okX sa3] | rw [g4] | rw [zlt_] | rw [zjn_] | rw [zob_s] | rw [zg_1] | rw [zbi_s] | rw [zbI_s] | rw [zbr_s] | rw [zbR_s] | rw [zbV_s] | rw [zbj_s] | rw [zbJ_s] | rw [zcs_s] | rw [zcs_n])
    exact c1
  · rw [c2.1.1, z4.1, m3.1.1]; have := m1.1.1; omega
  · rw [c2.1.2, z4.2, m3.1.2]; have := m1.1.2; omega
  · obtain ⟨r1, r2⟩ := rolC_sum (N := N) (k := k) hA x A.length (Nat.le_refl _)
    rw [List.take_length] at r1 r2
    rw [(c6 x).1, (c6 x).2, yF, yF, r1, r2]
    exact ⟨rfl, rfl⟩
section Ops
variable {SC : Ch → (Nat → Nat → Int32) → (Nat → Nat → Int64) → Prop} {h h0 : Zh} {o : Nat → Nat} {L : Led} {n : Nat} {w : Nat → Wt} {S : Nat → Option Sh} {fa tr : Int32} {I : Nat → Nat → Int32} {J : Nat → Nat → Int64}
theorem shift_st (p : stX SC h o L n w S fa tr) (q : stM I L n w S fa tr) (hst : stOk L n w S) (x1 x2 x3 : Int32) : stG SC (gX11_shift h 0 x1 x2 x3) (gX12_shift (mH I J) 0 x1 x2 x3) h := by
  have hL := hst.1
  unfold gX11_shift gX12_shift
  repeat (first | rw [noSumX] | rw [noSumM] | rw [zlt_] | rw [zjn_] | rw [zob_s] | rw [zg_1] | rw [zbi_s] | rw [zbI_s] | rw [zbr_s] | rw [zbR_s] | rw [zbV_s] | rw [zbj_s] | rw [zbJ_s] | rw [zcs_s] | rw [zcs_n])
  by_cases h1 : inR x1 4
  · rw [if_pos h1, if_pos rfl, if_pos rfl]
    by_cases h2 : inR x2 4
    · rw [if_pos h2, if_pos rfl, if_pos rfl, in_R x3 7 8 rfl, zbi_s]
      have hif : ∀ (u v : Option (Int32 × Zh)), (if x3 < 0 then v else if x3 ≤ 7 then u else v) = if inR x3 8 then u else v := by
        intro u v
        have e1 := i_lt0 x3
        have e4 : x3 ≤ 7 ↔ x3.toInt ≤ 7 := Int32.le_iff_toInt_le
        simp only [e1, e4]
        by_cases hC : inR x3 8
        · rw [if_pos hC]
          repeat' split
          all_goals first | rfl | (exfalso; omega)
        · rw [if_neg hC]
          repeat' split
          all_goals first | rfl | (exfalso; omega)
      rw [hif]
      by_cases h3 : inR x3 8
      · rw [if_pos h3, if_pos h3, if_neg (show ¬ (1 : Int32) = 0 by decide)]
        obtain ⟨m, hm, rfl⟩ := inR_f h1
        obtain ⟨k, hk, rfl⟩ := inR_f h2
        obtain ⟨y, hy, rfl⟩ := inR_f h3
        obtain ⟨a, ga, sa⟩ := sumNow_ok hL p hk
        obtain ⟨c, hcn, hcx⟩ := cn_st p hL
        have hco := (hL.2.2 _ hL.1).1
        have f0 : zR h 0 0 = some 1 := p.1.1.1
        have wA := (hL.2.2 _ hL.1).2 k hk
        have kA : ∀ v ∈ L.2.1 L.2.2.1 k, v.1 < 65536 := fun v hv => (wA.2.2 v hv).1
        have e60 : (60 : Int32) * nI k = nI (60 * k) := by rw [nI_o 60, pk_mul]
        have hc4 := hcx.2.2.2.2.2.1
        have hmc := mc_st (J := J) q
        have hlp := shift_lp J hmc hco.1 hco.2.1 hco.2.2.1 (show k < 5 by omega) hy wA.1 kA (q.1.2.2 k hk) (z0f (J 27) 65536) (z0f (J 28) 65536) (gX12_shift_J1 0 (nI m))
        repeat (first | rw [f0] | rw [ga] | rw [chainNow_ok hcn] | rw [hc4] | rw [startSum_ok I J] | rw [e60] | rw [zlt_] | rw [zjn_] | rw [zob_s] | rw [zg_1] | rw [zbi_s] | rw [zbI_s] | rw [zbr_s] | rw [zbR_s] | rw [zbV_s] | rw [zbj_s] | rw [zbJ_s] | rw [zcs_s] | rw [zcs_n])
        rcases within_ok sa wA.1 kA hco.2.1 with ⟨gw, hw⟩ | ⟨gw, hw⟩
        · rcases hlp with ⟨-, hlp⟩ | ⟨hn, -⟩
          · obtain ⟨h1', o1, s, pp, qq, nn, g1, p1, e8, hx1, mw, bN, bS⟩ := wordRows_ok p
            have sa1 := sa.mv mw (by omega)
            have hcx1 := hcx.mv mw (by omega)
            obtain ⟨h2', o2, p2', q2', n2', E, t1, t2, t3, ⟨t4, t5⟩, t6, t7, t8, t9⟩ := roll_ok hx1 sa1 wA.1 wA.2.1 kA hcx1 hco hw hy
            obtain ⟨p3, e83⟩ := stX_mix t3 e8 t2 p1
            rw [gw, zbi_s, if_neg (show ¬ (1 : Int32) = 0 by decide), hlp, g1, zbR_s, zob_s, t1, zbV_s]
            unfold gX12_shift_J1
            exact keep_both hm p3 q hst e83 t2 t6 (E_nz t7 (fun x hx => by
              show _ = z0f (J 27) 65536 x + _ ∧ _ = z0f (J 28) 65536 x + _
              rw [z0f_lt _ hx, z0f_lt _ hx, (t9 x).1, (t9 x).2]
              exact ⟨by grind, by grind⟩)) (by omega) (by omega)
          · exact absurd hw hn
        · rcases hlp with ⟨hn, -⟩ | ⟨-, f', g', hlp⟩
          · exact absurd hn hw
          · rw [gw, zbi_s, if_pos rfl, hlp]
            exact ⟨_, h, I, _, o, L, n, w, S, fa, tr, rfl, rfl, p, q, hst, stP_r h⟩
      · rw [if_neg h3, if_neg h3, if_pos rfl]
        exact stG_0 p q hst _
    · rw [if_neg h2, if_neg (by decide), if_neg (by decide)]
      exact stG_0 p q hst _
  · rw [if_neg h1, if_neg (by decide), if_neg (by decide)]
    exact stG_0 p q hst _
end Ops
