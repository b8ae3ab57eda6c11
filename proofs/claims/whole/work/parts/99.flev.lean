/-! the reference's polynomial: powers of the table, traces, division -/
theorem e10l (i j : Nat) : (10 : Int32) * nI i + nI j = nI (10 * i + j) := by rw [nI_o 10, pk_mul, nI_add]
theorem e11l (i : Nat) : (11 : Int32) * nI i = nI (10 * i + i) := by rw [nI_o 11, pk_mul]; exact congrArg nI (by omega)
theorem unit_fin : ∀ k, k < 100 → ((nI k - nI k / 11 * 11 = 0) ↔ k % 11 = 0) := by decide
section Fl
variable {I : Nat → Nat → Int32} {n : Nat}
theorem sumOf_ok (h5 : I 0 5 = nI n) (hn : n ≤ 10) (J : Nat → Nat → Int64) : gX12_sumOfPower (mH I J) 0 = some (sF (fun i => J 7 (10 * i + i)) (List.range n)) := by
  have v5 : zI (mH I J) 0 5 = nI n := h5
  unfold gX12_sumOfPower
  refine zlp_it (R := Option Int64) (z := fun (_ : Int64) (_ : Int32) => (none : Option (Int64))) (F := gX12_sumOfPower_L1 (mH I J) 0) (fun k (F : Int64 → Int32 → Option Int64) => F (sF (fun i => J 7 (10 * i + i)) (List.range k)) (nI k)) _ n ?_ ?_ zFU (by unfold zFU; omega)
  · intro k hk r
    show gX12_sumOfPower_L1 (mH I J) 0 r (sF (fun i => J 7 (10 * i + i)) (List.range k)) (nI k) = r (sF (fun i => J 7 (10 * i + i)) (List.range (k + 1))) (nI (k + 1))
    rw [sF_range]
    unfold gX12_sumOfPower_L1
    rw [v5, if_neg (zge_n hk (by omega)), zlt_, mR_12, zob_s, e11l, min_ (mL_7 _ _) (show 10 * k + k < 100 by omega) (by omega), zg_1, zlt_, zx_nI (show 10 * k + k < 2 ^ 31 by omega), ← nI_sc]
    rfl
  · intro r
    show gX12_sumOfPower_L1 (mH I J) 0 r _ (nI n) = _
    unfold gX12_sumOfPower_L1
    rw [v5, if_pos (Int32.le_refl _)]
theorem timesT_ok (h5 : I 0 5 = nI n) (hn : n ≤ 10) (J : Nat → Nat → Int64) {T P : Nat → Nat → Int64} (hT : ∀ i j, i < n → j < n → J 5 (10 * i + j) = T i j) (hP : ∀ i j, i < n → j < n → J 7 (10 * i + j) = P i j) : ∃ J', gX12_timesTable (mH I J) 0 = some (mH I J') ∧ (∀ i j, i < n → j < n → J' 7 (10 * i + j) = sF (fun k => T i k * P k j) (List.range n)) ∧ ∀ a, a ≠ 7 → a ≠ 8 → J' a = J a := by
  let val : Nat → Nat → Int64 := fun i j => sF (fun k => T i k * P k j) (List.range n)
  let g := fun i j => grF 10 n val (J 8) i j
  have v5 : ∀ J', zI (mH I J') 0 5 = nI n := fun _ => h5
  have hcell : ∀ i, i < n → ∀ j, j < n → ∀ K : Int32 → Zh → Option Zh, zlp (fun (_ : Int64) (_ : Int32) => (none : Option (Zh))) (gX12_timesTable_L5 0 (nI i) (nI j) (mH I (zW J 8 (g i j))) (gX12_timesTable_J4 0 (nI i) (nI j) (mH I (zW J 8 (g i j))) K)) zFU 0 0 = K (nI (j + 1)) (mH I (zW J 8 (g i (j + 1)))) := by
    intro i hi j hj K
    have hh := zlp_it (R := Option Zh) (z := fun (_ : Int64) (_ : Int32) => (none : Option (Zh))) (F := gX12_timesTable_L5 0 (nI i) (nI j) (mH I (zW J 8 (g i j))) (gX12_timesTable_J4 0 (nI i) (nI j) (mH I (zW J 8 (g i j))) K)) (fun k (F : Int64 → Int32 → Option Zh) => F (sF (fun k => T i k * P k j) (List.range k)) (nI k)) (gX12_timesTable_J4 0 (nI i) (nI j) (mH I (zW J 8 (g i j))) K (val i j)) n ?_ ?_ zFU (by unfold zFU; omega)
    · refine Eq.trans hh ?_
      have hs' : updJ (g i j) (10 * i + j) (val i j) = g i (j + 1) := gr_s _ _ hj hn
      unfold gX12_timesTable_J4
      rw [zlt_, mR_13, zob_s, e10l, min_ (mL_8 _ _) (show 10 * i + j < 100 by omega) (by omega), zg_1, zlt_, zx_nI (show 10 * i + j < 2 ^ 31 by omega), msJ, zW_J, hs', ← nI_sc]
    · intro k hk r
      show gX12_timesTable_L5 0 (nI i) (nI j) (mH I (zW J 8 (g i j))) _ r (sF (fun k => T i k * P k j) (List.range k)) (nI k) = r (sF (fun k => T i k * P k j) (List.range (k + 1))) (nI (k + 1))
      have q1 : zJ (mH I (zW J 8 (g i j))) 5 (10 * i + k) = T i k := hT i k hi hk
      have q2 : zJ (mH I (zW J 8 (g i j))) 7 (10 * k + j) = P k j := hP k j hk hj
      rw [sF_range]
      unfold gX12_timesTable_L5
      rw [v5, if_neg (zge_n hk (by omega)), zlt_, mR_10, zob_s, e10l, min_ (mL_5 _ _) (show 10 * i + k < 100 by omega) (by omega), zg_1, zlt_, mR_12, zob_s, e10l, min_ (mL_7 _ _) (show 10 * k + j < 100 by omega) (by omega), zg_1, zlt_, zx_nI (show 10 * i + k < 2 ^ 31 by omega), zx_nI (show 10 * k + j < 2 ^ 31 by omega), q1, q2, ← nI_sc]
    · intro r
      show gX12_timesTable_L5 0 (nI i) (nI j) (mH I (zW J 8 (g i j))) _ r _ (nI n) = _
      unfold gX12_timesTable_L5
      rw [v5, if_pos (Int32.le_refl _)]
  have hrow : ∀ i, i < n → ∀ K : Zh → Option Zh, zlp (fun (_ : Int32) (_ : Zh) => (none : Option (Zh))) (gX12_timesTable_L6 0 (nI i) K) zFU 0 (mH I (zW J 8 (g i 0))) = K (mH I (zW J 8 (g (i + 1) 0))) := by
    intro i hi K
    have hh := zlp_it (R := Option Zh) (z := fun (_ : Int32) (_ : Zh) => (none : Option (Zh))) (F := gX12_timesTable_L6 0 (nI i) K) (fun j (F : Int32 → Zh → Option Zh) => F (nI j) (mH I (zW J 8 (g i j)))) (K (mH I (zW J 8 (g i n)))) n ?_ ?_ zFU (by unfold zFU; omega)
    · have e : g i n = g (i + 1) 0 := gr_r _ _ _
      rw [e] at hh
      exact hh
    · intro j hj rr
      show gX12_timesTable_L6 0 (nI i) K rr (nI j) (mH I (zW J 8 (g i j))) = rr (nI (j + 1)) (mH I (zW J 8 (g i (j + 1))))
      unfold gX12_timesTable_L6
      rw [v5, if_neg (zge_n hj (by omega)), zjn_, hcell i hi j hj]
    · intro rr
      show gX12_timesTable_L6 0 (nI i) K rr (nI n) _ = _
      unfold gX12_timesTable_L6
      rw [v5, if_pos (Int32.le_refl _)]
  refine ⟨zW (zW J 8 (g n 0)) 7 (pre 100 (g n 0) (J 7)), ?_, fun i j hi hj => ?_, fun a h7 h8 => ?_⟩
  · unfold gX12_timesTable
    rw [zjn_]
    have hall := zlp_it (R := Option Zh) (z := fun (_ : Int32) (_ : Zh) => (none : Option (Zh))) (F := gX12_timesTable_L7 0 (gX12_timesTable_J2 0)) (fun i (F : Int32 → Zh → Option Zh) => F (nI i) (mH I (zW J 8 (g i 0)))) (gX12_timesTable_J2 0 (mH I (zW J 8 (g n 0)))) n ?_ ?_ zFU (by unfold zFU; omega)
    · have e : g 0 0 = J 8 := grz_0 _ _
      rw [e, zW_self] at hall
      refine Eq.trans hall ?_
      unfold gX12_timesTable_J2
      have hcp := zlp_it (R := Option Zh) (z := fun (_ : Int32) (_ : Zh) => (none : Option (Zh))) (F := gX12_timesTable_L1 0) (fun k (F : Int32 → Zh → Option Zh) => F (nI k) (mH I (zW (zW J 8 (g n 0)) 7 (pre k (g n 0) (J 7))))) (some (mH I (zW (zW J 8 (g n 0)) 7 (pre 100 (g n 0) (J 7))))) 100 ?_ ?_ zFU (by unfold zFU; omega)
      · have e2 : zW (zW J 8 (g n 0)) 7 (pre 0 (g n 0) (J 7)) = zW J 8 (g n 0) := by
          rw [pre_0]
          exact zW_self (zW J 8 (g n 0)) 7
        rw [e2] at hcp
        exact hcp
      · intro k hk rr
        show gX12_timesTable_L1 0 rr (nI k) (mH I (zW (zW J 8 (g n 0)) 7 (pre k (g n 0) (J 7)))) = rr (nI (k + 1)) (mH I (zW (zW J 8 (g n 0)) 7 (pre (k + 1) (g n 0) (J 7))))
        have q1 : zJ (mH I (zW (zW J 8 (g n 0)) 7 (pre k (g n 0) (J 7)))) 8 k = g n 0 k := rfl
        unfold gX12_timesTable_L1
        rw [if_neg (show ¬ (100 : Int32) ≤ nI k from zge_n (b := 100) hk (by omega)), zlt_, mR_12, zlt_, mR_13, zob_s, min_ (mL_8 _ _) hk (by omega), zg_1, zob_s, min_ (mL_7 _ _) hk (by omega), zg_1, zlt_, zx_nI (by omega), q1, msJ, zW_J, pre_s, ← nI_sc]
      · intro rr
        show gX12_timesTable_L1 0 rr (nI 100) _ = _
        unfold gX12_timesTable_L1
        rw [if_pos (show (100 : Int32) ≤ nI 100 from Int32.le_refl _)]
    · intro i hi rr
      show gX12_timesTable_L7 0 (gX12_timesTable_J2 0) rr (nI i) (mH I (zW J 8 (g i 0))) = rr (nI (i + 1)) (mH I (zW J 8 (g (i + 1) 0)))
      unfold gX12_timesTable_L7
      rw [v5, if_neg (zge_n hi (by omega)), zjn_, hrow i hi]
      unfold gX12_timesTable_J3
      rw [← nI_sc]
    · intro rr
      show gX12_timesTable_L7 0 (gX12_timesTable_J2 0) rr (nI n) _ = _
      unfold gX12_timesTable_L7
      rw [v5, if_pos (Int32.le_refl _)]
  · rw [zW_e, pre_i _ _ (by omega)]
    exact gr_at val (J 8) hi hj hn
  · rw [zW_n _ _ _ _ h7, zW_n _ _ _ _ h8]
theorem unitP_ok (J : Nat → Nat → Int64) : gX12_unitPower (mH I J) 0 = some (mH I (zW J 7 (pre 100 (fun k => if k % 11 = 0 then 1 else 0) (J 7)))) := by
  unfold gX12_unitPower
  have hh := zlp_it (R := Option Zh) (z := fun (_ : Int32) (_ : Zh) => (none : Option (Zh))) (F := gX12_unitPower_L2 0) (fun k (F : Int32 → Zh → Option Zh) => F (nI k) (mH I (zW J 7 (pre k (fun k => if k % 11 = 0 then 1 else 0) (J 7))))) (some (mH I (zW J 7 (pre 100 (fun k => if k % 11 = 0 then 1 else 0) (J 7))))) 100 ?_ ?_ zFU (by unfold zFU; omega)
  · rw [pre_0, zW_self] at hh
    exact hh
  · intro k hk rr
    show gX12_unitPower_L2 0 rr (nI k) (mH I (zW J 7 (pre k (fun k => if k % 11 = 0 then 1 else 0) (J 7)))) = rr (nI (k + 1)) (mH I (zW J 7 (pre (k + 1) (fun k => if k % 11 = 0 then 1 else 0) (J 7))))
    have hs := pre_s (fun k => if k % 11 = 0 then (1 : Int64) else 0) (J 7) k
    have hu := unit_fin k hk
    unfold gX12_unitPower_L2
    rw [if_neg (show ¬ (100 : Int32) ≤ nI k from zge_n (b := 100) hk (by omega)), zlt_, if_neg (show ¬ (11 : Int32) = 0 by decide), zjn_]
    have hj : ∀ v : Int64, v = (if k % 11 = 0 then 1 else 0) → gX12_unitPower_J1 (nI k) (mH I (zW J 7 (pre k (fun k => if k % 11 = 0 then 1 else 0) (J 7)))) rr (zR (mH I (zW J 7 (pre k (fun k => if k % 11 = 0 then 1 else 0) (J 7)))) 0 12) v = rr (nI (k + 1)) (mH I (zW J 7 (pre (k + 1) (fun k => if k % 11 = 0 then 1 else 0) (J 7)))) := by
      intro v hv
      unfold gX12_unitPower_J1
      rw [mR_12, zob_s, min_ (mL_7 _ _) hk (by omega), zg_1, zlt_, zx_nI (by omega), msJ, zW_J, hv, hs, ← nI_sc]
    by_cases h1 : k % 11 = 0
    · rw [if_pos (hu.mpr h1)]
      exact hj 1 (if_pos h1).symm
    · rw [if_neg (fun hh => h1 (hu.mp hh))]
      exact hj 0 (if_neg h1).symm
  · intro rr
    show gX12_unitPower_L2 0 rr (nI 100) _ = _
    unfold gX12_unitPower_L2
    rw [if_pos (show (100 : Int32) ≤ nI 100 from Int32.le_refl _)]
def unM (i j : Nat) : Int64 := if i = j then 1 else 0
theorem unitP_v (hn : n ≤ 10) (J : Nat → Nat → Int64) {i j : Nat} (hi : i < n) (hj : j < n) : zW J 7 (pre 100 (fun k => if k % 11 = 0 then 1 else 0) (J 7)) 7 (10 * i + j) = unM i j := by
  rw [zW_e, pre_i _ _ (by omega)]
  unfold unM
  by_cases h1 : i = j
  · rw [if_pos h1, if_pos (by omega)]
  · rw [if_neg h1, if_neg (by omega)]
end Fl
/-- T times the last one, and c on the diagonal -/
def flM (T : Nat → Nat → Int64) (n : Nat) (c : Nat → Int64) : Nat → Nat → Nat → Int64
  | 0, i, j => unM i j
  | k + 1, i, j => sF (fun l => T i l * flM T n c k l j) (List.range n) + (if i = j then c (k + 1) else 0)
def flT (T : Nat → Nat → Int64) (n : Nat) (c : Nat → Int64) (k : Nat) : Int64 := sF (fun i => sF (fun l => T i l * flM T n c k l i) (List.range n)) (List.range n)
def flOk (T : Nat → Nat → Int64) (n : Nat) (c : Nat → Int64) : Prop := c 0 = 1 ∧ ∀ k, k < n → -flT T n c k / (nI (k + 1)).toInt64 = c (k + 1)
def diG (n : Nat) (f : Nat → Int64) (v : Int64) (i : Nat) : Nat → Int64 := fun y => if y % 11 = 0 ∧ y / 11 < i then f y + v else f y
theorem layPoly_ok {I : Nat → Nat → Int32} {n : Nat} (h5 : I 0 5 = nI n) (hn : n ≤ 10) (J : Nat → Nat → Int64) {T : Nat → Nat → Int64} {c : Nat → Int64} (hT : ∀ i j, i < n → j < n → J 5 (10 * i + j) = T i j) (hc : flOk T n c) : ∃ J', gX12_layPolynomial (mH I J) 0 = some (mH I J') ∧ (∀ k, k ≤ n → J' 6 k = c (n - k)) ∧ ∀ a, a ≠ 6 → a ≠ 7 → a ≠ 8 → J' a = J a := by
  have v5 : zI (mH I J) 0 5 = nI n := h5
  unfold gX12_layPolynomial
  rw [v5, zlt_, unitP_ok, zbV_s, zlt_, mR_11, zob_s, min_ (mL_6 _ _) (show n < 11 by omega) (by omega), zg_1, zlt_, zx_nI (by omega), msJ]
  generalize hJ0 : zU (zW J 7 (pre 100 (fun k => if k % 11 = 0 then 1 else 0) (J 7))) 6 n 1 = J0
  have b1 : ∀ a, a ≠ 6 → a ≠ 7 → J0 a = J a := fun a h6 h7 => by
    rw [← hJ0]
    funext b
    show (if a = 6 ∧ b = n then (1 : Int64) else zW J 7 _ a b) = _
    rw [if_neg (fun hh => h6 hh.1), zW_n _ _ _ _ h7]
  have b2 : ∀ i j, i < n → j < n → J0 7 (10 * i + j) = flM T n c 0 i j := fun i j hi hj => by
    rw [← hJ0]
    show (if 7 = 6 ∧ 10 * i + j = n then (1 : Int64) else zW J 7 _ 7 (10 * i + j)) = _
    rw [if_neg (by omega)]
    exact unitP_v hn J hi hj
  have b3 : J0 6 n = c 0 := by
    rw [← hJ0]
    show (if 6 = 6 ∧ n = n then (1 : Int64) else _) = _
    rw [if_pos ⟨rfl, rfl⟩, hc.1]
  have key : ∀ (f k : Nat) (J1 : Nat → Nat → Int64) (fu : Nat), k + f = n → f < fu → (∀ a, a ≠ 6 → a ≠ 7 → a ≠ 8 → J1 a = J a) → (∀ i j, i < n → j < n → J1 7 (10 * i + j) = flM T n c k i j) → (∀ k', k' ≤ k → J1 6 (n - k') = c k') → ∃ J', zlp (fun (_ : Int32) (_ : Zh) => (none : Option (Zh))) (gX12_layPolynomial_L3 0 (nI n)) fu (nI (k + 1)) (mH I J1) = some (mH I J') ∧ (∀ k', k' ≤ n → J' 6 (n - k') = c k') ∧ ∀ a, a ≠ 6 → a ≠ 7 → a ≠ 8 → J' a = J a := by
    intro f
    induction f with
    | zero =>
      intro k J1 fu hk hfu f1 f2 f3
      obtain ⟨fu, rfl⟩ : ∃ f, fu = f + 1 := ⟨fu - 1, by omega⟩
      have : k = n := by omega
      subst this
      refine ⟨J1, ?_, f3, f1⟩
      show gX12_layPolynomial_L3 0 (nI k) _ (nI (k + 1)) (mH I J1) = _
      unfold gX12_layPolynomial_L3
      rw [if_pos (nI_lt (by omega) (by omega))]
    | succ f ih =>
      intro k J1 fu hk hfu f1 f2 f3
      obtain ⟨fu, rfl⟩ : ∃ f, fu = f + 1 := ⟨fu - 1, by omega⟩
      have hT1 : ∀ i j, i < n → j < n → J1 5 (10 * i + j) = T i j := fun i j hi hj => by rw [f1 5 (by decide) (by decide) (by decide)]; exact hT i j hi hj
      obtain ⟨J2, g1, g2, g3⟩ := timesT_ok h5 hn J1 hT1 f2
      have hsum : sF (fun i => J2 7 (10 * i + i)) (List.range n) = flT T n c k := sF_cg _ (fun i hi => g2 i i (List.mem_range.mp hi) (List.mem_range.mp hi))
      have hne : ¬ (nI (k + 1)).toInt64 = 0 := fun hh => by
        have h1 := congrArg Int64.toInt hh
        rw [Int32.toInt_toInt64, nI_int (by omega), show (0 : Int64).toInt = 0 from rfl] at h1
        omega
      generalize hJ3 : zU J2 6 (n - (k + 1)) (c (k + 1)) = J3
      have w6 : J3 6 (n - (k + 1)) = c (k + 1) := by
        rw [← hJ3]
        exact if_pos ⟨rfl, rfl⟩
      have w6' : ∀ k', k' ≤ k → J3 6 (n - k') = c k' := fun k' hk' => by
        rw [← hJ3]
        show (if 6 = 6 ∧ n - k' = n - (k + 1) then c (k + 1) else J2 6 (n - k')) = _
        rw [if_neg (by omega), g3 6 (by decide) (by decide)]
        exact f3 k' hk'
      have w7 : ∀ a, a ≠ 6 → J3 a = J2 a := fun a ha => by
        rw [← hJ3]
        funext b
        exact if_neg (fun hh => ha hh.1)
      have hdia : ∀ K : Zh → Option Zh, zlp (fun (_ : Int32) (_ : Zh) => (none : Option (Zh))) (gX12_layPolynomial_L2 0 (nI n) (nI (k + 1)) K) zFU 0 (mH I J3) = K (mH I (zW J3 7 (diG n (J3 7) (c (k + 1)) n))) := by
        intro K
        have hh := zlp_it (R := Option Zh) (z := fun (_ : Int32) (_ : Zh) => (none : Option (Zh))) (F := gX12_layPolynomial_L2 0 (nI n) (nI (k + 1)) K) (fun i (F : Int32 → Zh → Option Zh) => F (nI i) (mH I (zW J3 7 (diG n (J3 7) (c (k + 1)) i)))) (K (mH I (zW J3 7 (diG n (J3 7) (c (k + 1)) n)))) n ?_ ?_ zFU (by unfold zFU; omega)
        · have e : diG n (J3 7) (c (k + 1)) 0 = J3 7 := funext fun y => if_neg (by omega)
          rw [e, zW_self] at hh
          exact hh
        · intro i hi rr
          show gX12_layPolynomial_L2 0 (nI n) (nI (k + 1)) K rr (nI i) (mH I (zW J3 7 (diG n (J3 7) (c (k + 1)) i))) = rr (nI (i + 1)) (mH I (zW J3 7 (diG n (J3 7) (c (k + 1)) (i + 1))))
          have q1 : zJ (mH I (zW J3 7 (diG n (J3 7) (c (k + 1)) i))) 6 (n - (k + 1)) = c (k + 1) := w6
          have q2 : zJ (mH I (zW J3 7 (diG n (J3 7) (c (k + 1)) i))) 7 (10 * i + i) = J3 7 (10 * i + i) := if_neg (by omega)
          have hs' : updJ (diG n (J3 7) (c (k + 1)) i) (10 * i + i) (J3 7 (10 * i + i) + c (k + 1)) = diG n (J3 7) (c (k + 1)) (i + 1) := by
            funext y
            unfold updJ diG
            by_cases h1 : y = 10 * i + i
            · rw [if_pos h1, h1, if_pos (by omega)]
            · rw [if_neg h1]
              by_cases h2 : y % 11 = 0 ∧ y / 11 < i
              · rw [if_pos h2, if_pos (by omega)]
              · rw [if_neg h2, if_neg (by omega)]
          unfold gX12_layPolynomial_L2
          rw [if_neg (zge_n hi (by omega)), zlt_, mR_12, zlt_, e11l, zob_s, min_ (mL_7 _ _) (show 10 * i + i < 100 by omega) (by omega), zg_1, zlt_, mR_11, zob_s, nI_sub2 (show k + 1 ≤ n by omega), min_ (mL_6 _ _) (show n - (k + 1) < 11 by omega) (by omega), zg_1, zg_1, zlt_, zx_nI (show 10 * i + i < 2 ^ 31 by omega), zx_nI (show n - (k + 1) < 2 ^ 31 by omega), q1, q2, msJ, zW_J, hs', ← nI_sc]
        · intro rr
          show gX12_layPolynomial_L2 0 (nI n) (nI (k + 1)) K rr (nI n) _ = _
          unfold gX12_layPolynomial_L2
          rw [if_pos (Int32.le_refl _)]
      obtain ⟨J', r1, r2, r3⟩ := ih (k + 1) (zW J3 7 (diG n (J3 7) (c (k + 1)) n)) fu (by omega) (by omega) (fun a h6 h7 h8 => by
          rw [zW_n _ _ _ _ h7, w7 a h6, g3 a h7 h8]; exact f1 a h6 h7 h8) (fun i j hi hj => by
          rw [zW_e]
          unfold diG
          rw [w7 7 (by decide), g2 i j hi hj]
          show _ = sF (fun l => T i l * flM T n c k l j) (List.range n) + (if i = j then c (k + 1) else 0)
          by_cases h1 : i = j
          · rw [if_pos h1, if_pos (by omega)]
          · rw [if_neg h1, if_neg (by omega)]; grind) (fun k' hk' => by
          rw [zW_n _ _ _ _ (by decide)]
          by_cases h1 : k' = k + 1
          · rw [h1]; exact w6
          · exact w6' k' (by omega))
      refine ⟨J', ?_, r2, r3⟩
      rw [← r1]
      show gX12_layPolynomial_L3 0 (nI n) (zlp (fun (_ : Int32) (_ : Zh) => (none : Option (Zh))) (gX12_layPolynomial_L3 0 (nI n)) fu) (nI (k + 1)) (mH I J1) = _
      generalize zlp (fun (_ : Int32) (_ : Zh) => (none : Option (Zh))) (gX12_layPolynomial_L3 0 (nI n)) fu = Z
      unfold gX12_layPolynomial_L3
      rw [if_neg (nI_nlt (show k + 1 ≤ n by omega) (by omega)), g1, zbV_s, zlt_, mR_11, sumOf_ok h5 hn, hsum, zbj_s, if_neg hne, zob_s, nI_sub2 (show k + 1 ≤ n by omega), min_ (mL_6 _ _) (show n - (k + 1) < 11 by omega) (by omega), zg_1, zlt_, zx_nI (show n - (k + 1) < 2 ^ 31 by omega), hc.2 k (by omega), msJ, hJ3, zjn_, hdia]
      unfold gX12_layPolynomial_J1
      rw [← nI_sc]
  obtain ⟨J', r1, r2, r3⟩ := key n 0 J0 zFU (by omega) (by unfold zFU; omega) (fun a h6 h7 _ => b1 a h6 h7) b2 (fun k' hk' => by
    have : k' = 0 := by omega
    subst this
    exact b3)
  refine ⟨J', r1, fun k hk => ?_, r3⟩
  have := r2 (n - k) (by omega)
  rwa [show n - (n - k) = k by omega] at this
