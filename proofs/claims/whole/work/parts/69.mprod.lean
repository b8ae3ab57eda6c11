/-! products of words: turns by quarters, and the reference's products -/
theorem nI_shr {v s : Nat} (hv : v < 2147483648) (hs : s < 32) : nI v >>> (nI s &&& 31) = nI (v / 2 ^ s) := by
  have h : nI v >>> (nI s &&& 31) = nI (sysr v s) := yI_shr (nI_yI v) (nI_yI s)
  rw [h]
  unfold sysr
  have e1 : Nat.mod v 4294967296 = v := Nat.mod_eq_of_lt (by omega)
  have e2 : Nat.mod s 32 = s := Nat.mod_eq_of_lt hs
  rw [e1, e2, sy_ble_f (show ¬ 2147483648 ≤ v by omega)]
  show nI (v >>> s) = _
  rw [Nat.shiftRight_eq_div_pow]
theorem nI_shl {v s : Nat} (hs : s < 32) : nI v <<< (nI s &&& 31) = nI (v * 2 ^ s) := by
  have h : nI v <<< (nI s &&& 31) = nI (Nat.shiftLeft v (Nat.mod s 32)) := yI_shl (nI_yI v) (nI_yI s)
  rw [h, show Nat.mod s 32 = s from Nat.mod_eq_of_lt hs]
  show nI (v <<< s) = _
  rw [Nat.shiftLeft_eq]
theorem nI_or (a b : Nat) : nI a ||| nI b = nI (a ||| b) := yI_or (nI_yI a) (nI_yI b)
theorem and1 (a : Nat) : a &&& 1 = a % 2 := Nat.and_two_pow_sub_one_eq_mod a 1
theorem and3 (a : Nat) : a &&& 3 = a % 4 := Nat.and_two_pow_sub_one_eq_mod a 2
theorem and63 (a : Nat) : a &&& 63 = a % 64 := Nat.and_two_pow_sub_one_eq_mod a 6
theorem and255 (a : Nat) : a &&& 255 = a % 256 := Nat.and_two_pow_sub_one_eq_mod a 8
theorem and4095 (a : Nat) : a &&& 4095 = a % 4096 := Nat.and_two_pow_sub_one_eq_mod a 12
/-- a letter at a place: 1 for X, 2 for Z, 3 for both -/
def ltr (v p : Nat) : Nat := v / 2 ^ (8 + p) % 2 + 2 * (v / 2 ^ p % 2)
def phF (a b : Nat) : Nat := if (a = 1 ∧ b = 3) ∨ (a = 3 ∧ b = 2) ∨ (a = 2 ∧ b = 1) then 1 else if (a = 3 ∧ b = 1) ∨ (a = 2 ∧ b = 3) ∨ (a = 1 ∧ b = 2) then 3 else 0
def phS (v w : Nat) : Nat → Nat
  | 0 => 0
  | p + 1 => phS v w p + phF (ltr v p) (ltr w p)
def phN (v w : Nat) : Nat := phS v w 8 % 4
theorem ltr_lt (v p : Nat) : ltr v p < 4 := by unfold ltr; omega
theorem phF_le (a b : Nat) : phF a b ≤ 3 := by
  unfold phF
  split
  · omega
  · split <;> omega
theorem phS_le (v w : Nat) : ∀ p, phS v w p ≤ 3 * p
  | 0 => Nat.le_refl _
  | p + 1 => by
    have h1 := phS_le v w p
    have h2 := phF_le (ltr v p) (ltr w p)
    show phS v w p + phF (ltr v p) (ltr w p) ≤ _
    omega
theorem rem4 (n : Nat) (h : n ≤ 24) : nI n - nI n / 4 * 4 = nI (n % 4) := by
  have hf : (List.range 25).all (fun n => decide (nI n - nI n / 4 * 4 = nI (n % 4))) = true := by decide +kernel
  exact of_decide_eq_true (List.all_eq_true.mp hf n (List.mem_range.mpr (by omega)))
theorem phase_st : ∀ a, a < 4 → ∀ b, b < 4 → ∀ (s p : Int32) (K : Int32 → Int32 → Option Int32), zjn (gX12_phase_J8 s p K (nI a) (nI b)) (fun (k38 : Int32 → Option (Int32)) => zjn (gX12_phase_J9 k38) (fun (k39 : Option (Int32)) => zjn (gX12_phase_J12 (nI a) (nI b) k38 k39) (fun (k42 : Option (Int32)) => (if nI a = 1 then (if nI b = 3 then k39 else k42) else k42)))) = K (s + nI (phF a b)) (p + 1) := by
  intro a ha b hb s p K
  rcases (show a = 0 ∨ a = 1 ∨ a = 2 ∨ a = 3 by omega) with rfl | rfl | rfl | rfl <;> rcases (show b = 0 ∨ b = 1 ∨ b = 2 ∨ b = 3 by omega) with rfl | rfl | rfl | rfl <;> rfl
theorem ltr_I {v p : Nat} (hv : v < 65536) (hp : p < 8) : ((nI v >>> ((8 + nI p) &&& 31)) &&& 1) + (2 * ((nI v >>> (nI p &&& 31)) &&& 1)) = nI (ltr v p) := by
  rw [nI_o 8, nI_add, nI_shr (by omega) (by omega), nI_shr (by omega) (by omega), nI_o 1, nI_and, nI_and, and1, and1, nI_o 2, pk_mul, nI_add]
  rfl
theorem phase_ok {v w : Nat} (hv : v < 65536) (hw : w < 65536) : gX12_phase (nI v) (nI w) = some (nI (phN v w)) := by
  unfold gX12_phase
  rw [zjn_]
  refine zlp_it (R := Option Int32) (z := fun (_ : Int32) (_ : Int32) => (none : Option (Int32))) (F := gX12_phase_L13 (nI v) (nI w) gX12_phase_J1) (fun p (F : Int32 → Int32 → Option Int32) => F (nI (phS v w p)) (nI p)) _ 8 ?_ ?_ zFU (by unfold zFU; omega)
  · intro p hp r
    show gX12_phase_L13 (nI v) (nI w) gX12_phase_J1 r (nI (phS v w p)) (nI p) = r (nI (phS v w p + phF (ltr v p) (ltr w p))) (nI (p + 1))
    unfold gX12_phase_L13
    rw [if_neg (show ¬ (8 : Int32) ≤ nI p from zge_n (b := 8) hp (by decide)), ltr_I hv hp, ltr_I hw hp, zlt_, zlt_, phase_st _ (ltr_lt v p) _ (ltr_lt w p), nI_add, nI_sc]
  · intro r
    show gX12_phase_L13 (nI v) (nI w) gX12_phase_J1 r (nI (phS v w 8)) (nI 8) = _
    unfold gX12_phase_L13
    rw [if_pos (show (8 : Int32) ≤ nI 8 from Int32.le_refl _)]
    unfold gX12_phase_J1
    rw [if_neg (by decide), rem4 _ (phS_le v w 8)]
    rfl
/-- numbers turned by quarters -/
def tuR (q : Nat) (a b : Int64) : Int64 := if q = 0 then a else if q = 1 then -b else if q = 2 then -a else b
def tuI (q : Nat) (a b : Int64) : Int64 := if q = 0 then b else if q = 1 then a else if q = 2 then -b else -a
def pa (v w : Wd) : Int64 := v.2.1.toInt64 * w.2.1.toInt64 - v.2.2.toInt64 * w.2.2.toInt64
def pb (v w : Wd) : Int64 := v.2.1.toInt64 * w.2.2.toInt64 + v.2.2.toInt64 * w.2.1.toInt64
def prR (b : Int32) (v w : Wd) : Nat × Int64 := (v.1 ^^^ w.1, b.toInt64 * tuR (phN v.1 w.1) (pa v w) (pb v w))
def prI (b : Int32) (v w : Wd) : Nat × Int64 := (v.1 ^^^ w.1, b.toInt64 * tuI (phN v.1 w.1) (pa v w) (pb v w))
def pairC (F : Wd → Wd → Nat × Int64) (A B : List Wd) : List (Nat × Int64) := A.flatMap (fun a => B.map (fun b => F a b))
theorem xor_lt {a b : Nat} (ha : a < 65536) (hb : b < 65536) : a ^^^ b < 65536 := Nat.xor_lt_two_pow (n := 16) ha hb
theorem tp_in {I : Nat → Nat → Int32} {k l i : Nat} {A B : List Wd} {a : Wd} (hk : k < 5) (hl : l < 5) (hA : A.length ≤ 60) (hB : B.length ≤ 60) (wA : ∀ w ∈ A, w.1 < 65536) (wB : ∀ w ∈ B, w.1 < 65536) (sA : sumM I k A) (sB : sumM I l B) (ha : A[i]? = some a) (J : Nat → Nat → Int64) (f g : Nat → Int64) (b : Int32) (K : Zh → Option Zh) : zlp (fun (_ : Int32) (_ : Zh) => (none : Option (Zh))) (gX12_takeProduct_L4 0 (nI l) b (nI (60 * k + i)) K) zFU (nI (60 * l)) (mH I (wJ J f g)) = K (mH I (wJ J (aL f (B.map (prR b a))) (aL g (B.map (prI b a))))) := by
  obtain ⟨s1, s2⟩ := sB
  obtain ⟨a1, a2, a3⟩ := sA.2 i a ha
  have hia := (List.getElem?_eq_some_iff.mp ha).1
  have hak : a.1 < 65536 := wA a (List.mem_of_getElem? ha)
  have e60 : (60 : Int32) * nI l = nI (60 * l) := by rw [nI_o 60, pk_mul]
  have hh := zlp_it (R := Option Zh) (z := fun (_ : Int32) (_ : Zh) => (none : Option (Zh))) (F := gX12_takeProduct_L4 0 (nI l) b (nI (60 * k + i)) K) (fun j (F : Int32 → Zh → Option Zh) => F (nI (60 * l + j)) (mH I (wJ J (aL f ((B.take j).map (prR b a))) (aL g ((B.take j).map (prI b a)))))) (K (mH I (wJ J (aL f (B.map (prR b a))) (aL g (B.map (prI b a)))))) B.length ?_ ?_ zFU (by unfold zFU; omega)
  · rw [List.take_zero, Nat.add_zero, List.map_nil, List.map_nil, aL_nil, aL_nil] at hh
    exact hh
  · intro j hj r
    obtain ⟨w, hwj⟩ := get_some hj
    obtain ⟨w1, w2, w3⟩ := s2 j w hwj
    have hwk : w.1 < 65536 := wB w (List.mem_of_getElem? hwj)
    have hx : a.1 ^^^ w.1 < 65536 := xor_lt hak hwk
    show gX12_takeProduct_L4 0 (nI l) b (nI (60 * k + i)) K r (nI (60 * l + j)) (mH I (wJ J (aL f ((B.take j).map (prR b a))) (aL g ((B.take j).map (prI b a))))) = r (nI (60 * l + j + 1)) (mH I (wJ J (aL f ((B.take (j + 1)).map (prR b a))) (aL g ((B.take (j + 1)).map (prI b a)))))
    unfold gX12_takeProduct_L4
    have e1 : nI (60 * l) + nI B.length = nI (60 * l + B.length) := nI_add _ _
    have hle : ¬ nI (60 * l + B.length) ≤ nI (60 * l + j) := zge_n (by omega) (by omega)
    have t1 : (B.take (j + 1)).map (prR b a) = (B.take j).map (prR b a) ++ [(a.1 ^^^ w.1, b.toInt64 * tuR (phN a.1 w.1) (pa a w) (pb a w))] := by rw [take_sc hwj, List.map_append]; rfl
    have t2 : (B.take (j + 1)).map (prI b a) = (B.take j).map (prI b a) ++ [(a.1 ^^^ w.1, b.toInt64 * tuI (phN a.1 w.1) (pa a w) (pb a w))] := by rw [take_sc hwj, List.map_append]; rfl
    have epa : a.2.1.toInt64 * w.2.1.toInt64 - a.2.2.toInt64 * w.2.2.toInt64 = pa a w := rfl
    have epb : a.2.1.toInt64 * w.2.2.toInt64 + a.2.2.toInt64 * w.2.1.toInt64 = pb a w := rfl
    have hp4 : phN a.1 w.1 < 4 := Nat.mod_lt _ (by decide)
    have hifR : ∀ (K : Int64 → Option Zh), (if nI (phN a.1 w.1) = 0 then K (pa a w) else if nI (phN a.1 w.1) = 1 then K (-pb a w) else if nI (phN a.1 w.1) = 2 then K (-pa a w) else K (pb a w)) = K (tuR (phN a.1 w.1) (pa a w) (pb a w)) := by
      intro K
      unfold tuR
      rcases (show phN a.1 w.1 = 0 ∨ phN a.1 w.1 = 1 ∨ phN a.1 w.1 = 2 ∨ phN a.1 w.1 = 3 by omega) with e | e | e | e <;> rw [e] <;> rfl
    have hifI : ∀ (K : Int64 → Option Zh), (if nI (phN a.1 w.1) = 0 then K (pb a w) else if nI (phN a.1 w.1) = 1 then K (pa a w) else if nI (phN a.1 w.1) = 2 then K (-pb a w) else K (-pa a w)) = K (tuI (phN a.1 w.1) (pa a w) (pb a w)) := by
      intro K
      unfold tuI
      rcases (show phN a.1 w.1 = 0 ∨ phN a.1 w.1 = 1 ∨ phN a.1 w.1 = 2 ∨ phN a.1 w.1 = 3 by omega) with e | e | e | e <;> rw [e] <;> rfl
    repeat (first | rw [mR_29] | rw [min_ (mL_23 _ _) hl (by omega)] | rw [zx_nI (show l < 2 ^ 31 by omega)] | rw [mI_] | rw [s1] | rw [e60] | rw [e1] | rw [if_neg hle] | rw [mR_30] | rw [mR_31] | rw [mR_32] | rw [mR_33] | rw [min_ (mL_24 _ _) (show 60 * k + i < 300 by omega) (by omega)] | rw [min_ (mL_25 _ _) (show 60 * k + i < 300 by omega) (by omega)] | rw [min_ (mL_26 _ _) (show 60 * k + i < 300 by omega) (by omega)] | rw [zx_nI (show 60 * k + i < 2 ^ 31 by omega)] | rw [min_ (mL_24 _ _) (show 60 * l + j < 300 by omega) (by omega)] | rw [min_ (mL_25 _ _) (show 60 * l + j < 300 by omega) (by omega)] | rw [min_ (mL_26 _ _) (show 60 * l + j < 300 by omega) (by omega)] | rw [zx_nI (show 60 * l + j < 2 ^ 31 by omega)] | rw [a1] | rw [a2] | rw [a3] | rw [w1] | rw [w2] | rw [w3] | rw [epa] | rw [epb] | rw [phase_ok hak hwk] | rw [nI_xor] | rw [min_ (mL_27 _ _) hx (by omega)] | rw [zlt_] | rw [zjn_] | rw [zob_s] | rw [zg_1] | rw [zbi_s] | rw [zbI_s] | rw [zbr_s] | rw [zbR_s] | rw [zbV_s] | rw [zbj_s] | rw [zbJ_s] | rw [zcs_s] | rw [zcs_n])
    rw [hifR]
    unfold gX12_takeProduct_J3
    repeat (first | rw [mR_34] | rw [min_ (mL_27 _ _) hx (by omega)] | rw [min_ (mL_28 _ _) hx (by omega)] | rw [zx_nI (show a.1 ^^^ w.1 < 2 ^ 31 by omega)] | rw [msJ] | rw [mJ_] | rw [wJ_27] | rw [wJ_u27] | rw [zlt_] | rw [zjn_] | rw [zob_s] | rw [zg_1] | rw [zbi_s] | rw [zbI_s] | rw [zbr_s] | rw [zbR_s] | rw [zbV_s] | rw [zbj_s] | rw [zbJ_s] | rw [zcs_s] | rw [zcs_n])
    rw [hifI]
    unfold gX12_takeProduct_J2
    repeat (first | rw [min_ (mL_28 _ _) hx (by omega)] | rw [zx_nI (show a.1 ^^^ w.1 < 2 ^ 31 by omega)] | rw [msJ] | rw [mJ_] | rw [wJ_28] | rw [wJ_u28] | rw [aL_snoc] | rw [← t1] | rw [← t2] | rw [← nI_sc] | rw [zlt_] | rw [zjn_] | rw [zob_s] | rw [zg_1] | rw [zbi_s] | rw [zbI_s] | rw [zbr_s] | rw [zbR_s] | rw [zbV_s] | rw [zbj_s] | rw [zbJ_s] | rw [zcs_s] | rw [zcs_n])
  · intro r
    show gX12_takeProduct_L4 0 (nI l) b (nI (60 * k + i)) K r (nI (60 * l + B.length)) (mH I (wJ J (aL f ((B.take B.length).map (prR b a))) (aL g ((B.take B.length).map (prI b a))))) = _
    unfold gX12_takeProduct_L4
    have e1 : nI (60 * l) + nI B.length = nI (60 * l + B.length) := nI_add _ _
    repeat (first | rw [mR_29] | rw [min_ (mL_23 _ _) hl (by omega)] | rw [zx_nI (show l < 2 ^ 31 by omega)] | rw [mI_] | rw [s1] | rw [e60] | rw [e1] | rw [if_pos (Int32.le_refl (nI (60 * l + B.length)))] | rw [List.take_length] | rw [zlt_] | rw [zjn_] | rw [zob_s] | rw [zg_1] | rw [zbi_s] | rw [zbI_s] | rw [zbr_s] | rw [zbR_s] | rw [zbV_s] | rw [zbj_s] | rw [zbJ_s] | rw [zcs_s] | rw [zcs_n])
theorem aL_app (f : Nat → Int64) (cs ds : List (Nat × Int64)) : aL (aL f cs) ds = aL f (cs ++ ds) := by
  funext x
  show f x + sAt cs x + sAt ds x = f x + sAt (cs ++ ds) x
  rw [sAt_app]; grind
theorem takeProduct_ok {I : Nat → Nat → Int32} {k l : Nat} {A B : List Wd} (hk : k < 5) (hl : l < 5) (hA : A.length ≤ 60) (hB : B.length ≤ 60) (wA : ∀ w ∈ A, w.1 < 65536) (wB : ∀ w ∈ B, w.1 < 65536) (sA : sumM I k A) (sB : sumM I l B) (J : Nat → Nat → Int64) (f g : Nat → Int64) (b : Int32) : gX12_takeProduct (mH I (wJ J f g)) 0 (nI k) (nI l) b = some (mH I (wJ J (aL f (pairC (prR b) A B)) (aL g (pairC (prI b) A B)))) := by
  have e60 : (60 : Int32) * nI k = nI (60 * k) := by rw [nI_o 60, pk_mul]
  have e60l : (60 : Int32) * nI l = nI (60 * l) := by rw [nI_o 60, pk_mul]
  unfold gX12_takeProduct
  rw [zlt_, e60]
  have hh := zlp_it (R := Option Zh) (z := fun (_ : Int32) (_ : Zh) => (none : Option (Zh))) (F := gX12_takeProduct_L5 0 (nI k) (nI l) b) (fun i (F : Int32 → Zh → Option Zh) => F (nI (60 * k + i)) (mH I (wJ J (aL f (pairC (prR b) (A.take i) B)) (aL g (pairC (prI b) (A.take i) B))))) (some (mH I (wJ J (aL f (pairC (prR b) A B)) (aL g (pairC (prI b) A B))))) A.length ?_ ?_ zFU (by unfold zFU; omega)
  · rw [List.take_zero, Nat.add_zero] at hh
    have e1 : aL f (pairC (prR b) [] B) = f := aL_nil f
    have e2 : aL g (pairC (prI b) [] B) = g := aL_nil g
    rw [e1, e2] at hh
    exact hh
  · intro i hi r
    obtain ⟨a, hai⟩ := get_some hi
    show gX12_takeProduct_L5 0 (nI k) (nI l) b r (nI (60 * k + i)) (mH I (wJ J (aL f (pairC (prR b) (A.take i) B)) (aL g (pairC (prI b) (A.take i) B)))) = r (nI (60 * k + i + 1)) (mH I (wJ J (aL f (pairC (prR b) (A.take (i + 1)) B)) (aL g (pairC (prI b) (A.take (i + 1)) B))))
    unfold gX12_takeProduct_L5
    have e1 : nI (60 * k) + nI A.length = nI (60 * k + A.length) := nI_add _ _
    have hle : ¬ nI (60 * k + A.length) ≤ nI (60 * k + i) := zge_n (by omega) (by omega)
    have t : ∀ F : Wd → Wd → Nat × Int64, pairC F (A.take (i + 1)) B = pairC F (A.take i) B ++ B.map (F a) := fun F => by
      rw [take_sc hai]
      unfold pairC
      rw [List.flatMap_append]
      simp
    repeat (first | rw [mR_29] | rw [min_ (mL_23 _ _) hk (by omega)] | rw [zx_nI (show k < 2 ^ 31 by omega)] | rw [mI_] | rw [sA.1] | rw [e60] | rw [e60l] | rw [e1] | rw [if_neg hle] | rw [zlt_] | rw [zjn_] | rw [zob_s] | rw [zg_1] | rw [zbi_s] | rw [zbI_s] | rw [zbr_s] | rw [zbR_s] | rw [zbV_s] | rw [zbj_s] | rw [zbJ_s] | rw [zcs_s] | rw [zcs_n])
    rw [tp_in hk hl hA hB wA wB sA sB hai, aL_app, aL_app, ← t, ← t]
    unfold gX12_takeProduct_J1
    rw [nI_sc]
  · intro r
    show gX12_takeProduct_L5 0 (nI k) (nI l) b r (nI (60 * k + A.length)) (mH I (wJ J (aL f (pairC (prR b) (A.take A.length) B)) (aL g (pairC (prI b) (A.take A.length) B)))) = _
    unfold gX12_takeProduct_L5
    have e1 : nI (60 * k) + nI A.length = nI (60 * k + A.length) := nI_add _ _
    repeat (first | rw [mR_29] | rw [min_ (mL_23 _ _) hk (by omega)] | rw [zx_nI (show k < 2 ^ 31 by omega)] | rw [mI_] | rw [sA.1] | rw [e60] | rw [e1] | rw [if_pos (Int32.le_refl (nI (60 * k + A.length)))] | rw [List.take_length] | rw [zlt_] | rw [zjn_] | rw [zob_s] | rw [zg_1] | rw [zbi_s] | rw [zbI_s] | rw [zbr_s] | rw [zbR_s] | rw [zbV_s] | rw [zbj_s] | rw [zbJ_s] | rw [zcs_s] | rw [zcs_n])
