/-! unlike -/
def grF (W z : Nat) (val : Nat → Nat → Int64) (g0 : Nat → Int64) (i j : Nat) : Nat → Int64 := fun y => if y % W < z ∧ (y / W < i ∨ (y / W = i ∧ y % W < j)) then val (y / W) (y % W) else g0 y
theorem gr_dm {W i j : Nat} (hj : j < W) : (W * i + j) / W = i ∧ (W * i + j) % W = j := by
  refine ⟨?_, ?_⟩
  · rw [Nat.mul_add_div (by omega), Nat.div_eq_of_lt hj, Nat.add_zero]
  · rw [Nat.mul_add_mod, Nat.mod_eq_of_lt hj]
theorem gr_s {W z : Nat} (val : Nat → Nat → Int64) (g0 : Nat → Int64) {i j : Nat} (hj : j < z) (hz : z ≤ W) : updJ (grF W z val g0 i j) (W * i + j) (val i j) = grF W z val g0 i (j + 1) := by
  obtain ⟨d1, d2⟩ := gr_dm (W := W) (i := i) (j := j) (by omega)
  funext y
  unfold updJ grF
  by_cases h : y = W * i + j
  · rw [if_pos h, h, d1, d2, if_pos ⟨hj, Or.inr ⟨rfl, by omega⟩⟩]
  · rw [if_neg h]
    have hne : ¬ (y / W = i ∧ y % W = j) := fun hh => h (by have := Nat.div_add_mod y W; rw [hh.1, hh.2] at this; exact this.symm)
    by_cases h2 : y % W < z ∧ (y / W < i ∨ (y / W = i ∧ y % W < j))
    · rw [if_pos h2, if_pos ⟨h2.1, by omega⟩]
    · rw [if_neg h2, if_neg (by omega)]
theorem gr_r {W z : Nat} (val : Nat → Nat → Int64) (g0 : Nat → Int64) (i : Nat) : grF W z val g0 i z = grF W z val g0 (i + 1) 0 := by
  funext y
  unfold grF
  by_cases h2 : y % W < z ∧ (y / W < i ∨ (y / W = i ∧ y % W < z))
  · rw [if_pos h2, if_pos (by omega)]
  · rw [if_neg h2, if_neg (by omega)]
theorem grz_0 {W z : Nat} (val : Nat → Nat → Int64) (g0 : Nat → Int64) : grF W z val g0 0 0 = g0 := by
  funext y
  unfold grF
  rw [if_neg (fun hh => by
    rcases hh.2 with h | h
    · exact Nat.not_lt_zero _ h
    · exact Nat.not_lt_zero _ h.2)]
theorem gr_at {W z : Nat} (val : Nat → Nat → Int64) (g0 : Nat → Int64) {i i' j' : Nat} (hi : i' < i) (hj : j' < z) (hz : z ≤ W) : grF W z val g0 i 0 (W * i' + j') = val i' j' := by
  obtain ⟨d1, d2⟩ := gr_dm (W := W) (i := i') (j := j') (by omega)
  unfold grF
  rw [d1, d2, if_pos ⟨hj, Or.inl hi⟩]
/-! the reference -/
theorem zW_J (J : Nat → Nat → Int64) (a : Nat) (g : Nat → Int64) (k : Nat) (v : Int64) : zU (zW J a g) a k v = zW J a (updJ g k v) := zU_WW _ _ _ _ _ _ (fun b => rfl)
theorem layRows_ok {I : Nat → Nat → Int32} (J : Nat → Nat → Int64) {n : Nat} {w : Nat → Wt} (q : weiM I n w) (hn : n ≤ 6) {k : Nat} (hk : k < n) {m : Nat} (hm : m ≤ 6) (fst : Bool) : gX12_layRows (mH I J) 0 (nI k) (nI m) (if fst = true then 1 else 0) = some (mH I (zW J (if fst = true then 18 else 19) (grF 64 (2 ^ m) (rowN (w k) m) (J (if fst = true then 18 else 19)) (2 ^ m) 0))) := by
  have h64 : 2 ^ m ≤ 2 ^ 6 := Nat.pow_le_pow_right (by decide) hm
  obtain ⟨sh, -, -⟩ := shl_fin m (by omega)
  generalize hr : (if fst = true then 18 else 19) = r
  let g := fun i j => grF 64 (2 ^ m) (rowN (w k) m) (J r) i j
  unfold gX12_layRows
  rw [zlt_, sh]
  have hin : ∀ (s : Nat), s < 2 ^ m → ∀ K : Zh → Option Zh, zlp (fun (_ : Int32) (_ : Zh) => (none : Option (Zh))) (gX12_layRows_L3 0 (nI k) (nI m) (if fst = true then 1 else 0) (nI (2 ^ m)) (nI s) K) zFU 0 (mH I (zW J r (g s 0))) = K (mH I (zW J r (g (s + 1) 0))) := by
    intro s hs K
    have hh := zlp_it (R := Option Zh) (z := fun (_ : Int32) (_ : Zh) => (none : Option (Zh))) (F := gX12_layRows_L3 0 (nI k) (nI m) (if fst = true then 1 else 0) (nI (2 ^ m)) (nI s) K) (fun t (F : Int32 → Zh → Option Zh) => F (nI t) (mH I (zW J r (g s t)))) (K (mH I (zW J r (g s (2 ^ m))))) (2 ^ m) ?_ ?_ zFU (by unfold zFU; omega)
    · have e : g s (2 ^ m) = g (s + 1) 0 := gr_r _ _ _
      rw [e] at hh
      exact hh
    · intro t ht rr
      have e64 : 64 * nI s + nI t = nI (64 * s + t) := by rw [nI_o 64, pk_mul, nI_add]
      have hs' : updJ (g s t) (64 * s + t) (rowN (w k) m s t) = g s (t + 1) := gr_s _ _ ht (by omega)
      have hrow := rowM (zW J r (g s t)) q hn hk (show m ≤ 8 by omega) (show s < 256 by omega) (show t < 256 by omega)
      show gX12_layRows_L3 0 (nI k) (nI m) (if fst = true then 1 else 0) (nI (2 ^ m)) (nI s) K rr (nI t) (mH I (zW J r (g s t))) = rr (nI (t + 1)) (mH I (zW J r (g s (t + 1))))
      unfold gX12_layRows_L3
      rw [if_neg (zge_n ht (by omega)), zjn_]
      have hJ2 : ∀ g', gX12_layRows_J2 (nI t) rr g' = rr (nI (t + 1)) g' := fun g' => by unfold gX12_layRows_J2; rw [← nI_sc]
      cases fst with
      | true =>
        have hr : r = 18 := hr.symm
        subst hr
        rw [if_neg (show ¬ (if true = true then (1 : Int32) else 0) = 0 by decide)]
        repeat (first | rw [mR_24] | rw [hrow] | rw [e64] | rw [min_ (mL_18 _ _) (show 64 * s + t < 4096 by omega) (by omega)] | rw [zx_nI (show 64 * s + t < 2 ^ 31 by omega)] | rw [msJ] | rw [zW_J] | rw [hs'] | rw [hJ2] | rw [zlt_] | rw [zjn_] | rw [zob_s] | rw [zg_1] | rw [zbi_s] | rw [zbI_s] | rw [zbr_s] | rw [zbR_s] | rw [zbV_s] | rw [zbj_s] | rw [zbJ_s] | rw [zcs_s] | rw [zcs_n])
      | false =>
        have hr : r = 19 := hr.symm
        subst hr
        rw [if_pos (show (if false = true then (1 : Int32) else 0) = 0 from rfl)]
        repeat (first | rw [mR_25] | rw [hrow] | rw [e64] | rw [min_ (mL_19 _ _) (show 64 * s + t < 4096 by omega) (by omega)] | rw [zx_nI (show 64 * s + t < 2 ^ 31 by omega)] | rw [msJ] | rw [zW_J] | rw [hs'] | rw [hJ2] | rw [zlt_] | rw [zjn_] | rw [zob_s] | rw [zg_1] | rw [zbi_s] | rw [zbI_s] | rw [zbr_s] | rw [zbR_s] | rw [zbV_s] | rw [zbj_s] | rw [zbJ_s] | rw [zcs_s] | rw [zcs_n])
    · intro rr
      show gX12_layRows_L3 0 (nI k) (nI m) _ (nI (2 ^ m)) (nI s) K rr (nI (2 ^ m)) _ = _
      unfold gX12_layRows_L3
      rw [if_pos (Int32.le_refl _)]
  have hh := zlp_it (R := Option Zh) (z := fun (_ : Int32) (_ : Zh) => (none : Option (Zh))) (F := gX12_layRows_L4 0 (nI k) (nI m) (if fst = true then 1 else 0) (nI (2 ^ m))) (fun s (F : Int32 → Zh → Option Zh) => F (nI s) (mH I (zW J r (g s 0)))) (some (mH I (zW J r (g (2 ^ m) 0)))) (2 ^ m) ?_ ?_ zFU (by unfold zFU; omega)
  · have e : g 0 0 = J r := grz_0 _ _
    rw [e, zW_self] at hh
    exact hh
  · intro s hs rr
    show gX12_layRows_L4 0 (nI k) (nI m) _ (nI (2 ^ m)) rr (nI s) (mH I (zW J r (g s 0))) = rr (nI (s + 1)) (mH I (zW J r (g (s + 1) 0)))
    unfold gX12_layRows_L4
    rw [if_neg (zge_n hs (by omega)), zjn_, hin s hs]
    unfold gX12_layRows_J1
    rw [← nI_sc]
  · intro rr
    show gX12_layRows_L4 0 (nI k) (nI m) _ (nI (2 ^ m)) rr (nI (2 ^ m)) _ = _
    unfold gX12_layRows_L4
    rw [if_pos (Int32.le_refl _)]
/-- a product of tables, and whether the two ways differ -/
def prM (n : Nat) (v w : Wt) (s t : Nat) : Int64 := sF (fun x => rowN v n s x * rowN w n x t) (List.range (2 ^ n))
def unl (n : Nat) (v w : Wt) (s t : Nat) : Nat := if prM n v w s t = prM n w v s t then 0 else 1
theorem sF_range (F : Nat → Int64) (m : Nat) : sF F (List.range (m + 1)) = sF F (List.range m) + F m := by
  rw [List.range_succ, sF_app]
  show _ + (F m + 0) = _
  grind
theorem sN_range (F : Nat → Nat) (m : Nat) : sN F (List.range (m + 1)) = sN F (List.range m) + F m := by
  rw [List.range_succ, sN_app]
  rfl
theorem sF_sub (F G : Nat → Int64) : ∀ l : List Nat, sF (fun x => F x - G x) l = sF F l - sF G l
  | [] => by show (0 : Int64) = 0 - 0; rfl
  | x :: l => by
    show F x - G x + sF (fun x => F x - G x) l = (F x + sF F l) - (G x + sF G l)
    rw [sF_sub F G l]; grind
theorem unlikeM {I : Nat → Nat → Int32} {J : Nat → Nat → Int64} {v w : Wt} {m : Nat} (hm : m ≤ 6) (hA : ∀ s t, s < 2 ^ m → t < 2 ^ m → J 18 (64 * s + t) = rowN v m s t) (hB : ∀ s t, s < 2 ^ m → t < 2 ^ m → J 19 (64 * s + t) = rowN w m s t) : zlp (fun (_ : Int32) (_ : Int32) => (none : Option (Int32 × Zh))) (gX12_unlike_L6 0 (mH I J) (nI (2 ^ m))) zFU 0 0 = some (nI (sN (fun s => sN (unl m v w s) (List.range (2 ^ m))) (List.range (2 ^ m))), mH I J) := by
  have h64 : 2 ^ m ≤ 2 ^ 6 := Nat.pow_le_pow_right (by decide) hm
  have hl4 : ∀ s t, s < 2 ^ m → t < 2 ^ m → ∀ K : Int64 → Option (Int32 × Zh), zlp (fun (_ : Int64) (_ : Int32) => (none : Option (Int32 × Zh))) (gX12_unlike_L4 0 (mH I J) (nI (2 ^ m)) (nI s) (nI t) K) zFU 0 0 = K (prM m v w s t - prM m w v s t) := by
    intro s t hs ht K
    have hh := zlp_it (R := Option (Int32 × Zh)) (z := fun (_ : Int64) (_ : Int32) => (none : Option (Int32 × Zh))) (F := gX12_unlike_L4 0 (mH I J) (nI (2 ^ m)) (nI s) (nI t) K) (fun x (F : Int64 → Int32 → Option (Int32 × Zh)) => F (sF (fun x => rowN v m s x * rowN w m x t - rowN w m s x * rowN v m x t) (List.range x)) (nI x)) (K (sF (fun x => rowN v m s x * rowN w m x t - rowN w m s x * rowN v m x t) (List.range (2 ^ m)))) (2 ^ m) ?_ ?_ zFU (by unfold zFU; omega)
    · have e0 : sF (fun x => rowN v m s x * rowN w m x t - rowN w m s x * rowN v m x t) (List.range 0) = 0 := rfl
      have e1 : sF (fun x => rowN v m s x * rowN w m x t - rowN w m s x * rowN v m x t) (List.range (2 ^ m)) = prM m v w s t - prM m w v s t := sF_sub _ _ _
      rw [e1] at hh
      refine Eq.trans ?_ hh
      rw [e0]
      rfl
    · intro x hx r
      have e1 : 64 * nI s + nI x = nI (64 * s + x) := by rw [nI_o 64, pk_mul, nI_add]
      have e2 : 64 * nI x + nI t = nI (64 * x + t) := by rw [nI_o 64, pk_mul, nI_add]
      show gX12_unlike_L4 0 (mH I J) (nI (2 ^ m)) (nI s) (nI t) K r (sF (fun x => rowN v m s x * rowN w m x t - rowN w m s x * rowN v m x t) (List.range x)) (nI x) = r (sF (fun x => rowN v m s x * rowN w m x t - rowN w m s x * rowN v m x t) (List.range (x + 1))) (nI (x + 1))
      rw [sF_range]
      generalize sF (fun x => rowN v m s x * rowN w m x t - rowN w m s x * rowN v m x t) (List.range x) = acc
      unfold gX12_unlike_L4
      rw [if_neg (zge_n hx (by omega))]
      repeat (first | rw [mR_24] | rw [mR_25] | rw [e1] | rw [e2] | rw [min_ (mL_18 _ _) (show 64 * s + x < 4096 by omega) (by omega)] | rw [min_ (mL_18 _ _) (show 64 * x + t < 4096 by omega) (by omega)] | rw [min_ (mL_19 _ _) (show 64 * s + x < 4096 by omega) (by omega)] | rw [min_ (mL_19 _ _) (show 64 * x + t < 4096 by omega) (by omega)] | rw [zx_nI (show 64 * s + x < 2 ^ 31 by omega)] | rw [zx_nI (show 64 * x + t < 2 ^ 31 by omega)] | rw [mJ_] | rw [hA s x hs hx] | rw [hA x t hx ht] | rw [hB s x hs hx] | rw [hB x t hx ht] | rw [← nI_sc] | rw [zlt_] | rw [zjn_] | rw [zob_s] | rw [zg_1] | rw [zbi_s] | rw [zbI_s] | rw [zbr_s] | rw [zbR_s] | rw [zbV_s] | rw [zbj_s] | rw [zbJ_s] | rw [zcs_s] | rw [zcs_n])
    · intro r
      show gX12_unlike_L4 0 (mH I J) (nI (2 ^ m)) (nI s) (nI t) K r _ (nI (2 ^ m)) = _
      unfold gX12_unlike_L4
      rw [if_pos (Int32.le_refl _)]
  have hl5 : ∀ s, s < 2 ^ m → ∀ (c : Nat) (K : Int32 → Option (Int32 × Zh)), zlp (fun (_ : Int32) (_ : Int32) => (none : Option (Int32 × Zh))) (gX12_unlike_L5 0 (mH I J) (nI (2 ^ m)) (nI s) K) zFU (nI c) 0 = K (nI (c + sN (unl m v w s) (List.range (2 ^ m)))) := by
    intro s hs c K
    refine zlp_it (R := Option (Int32 × Zh)) (z := fun (_ : Int32) (_ : Int32) => (none : Option (Int32 × Zh))) (F := gX12_unlike_L5 0 (mH I J) (nI (2 ^ m)) (nI s) K) (fun t (F : Int32 → Int32 → Option (Int32 × Zh)) => F (nI (c + sN (unl m v w s) (List.range t))) (nI t)) _ (2 ^ m) ?_ ?_ zFU (by unfold zFU; omega)
    · intro t ht r
      show gX12_unlike_L5 0 (mH I J) (nI (2 ^ m)) (nI s) K r (nI (c + sN (unl m v w s) (List.range t))) (nI t) = r (nI (c + sN (unl m v w s) (List.range (t + 1)))) (nI (t + 1))
      rw [sN_range]
      unfold gX12_unlike_L5
      rw [if_neg (zge_n ht (by omega)), zjn_, hl4 s t hs ht]
      unfold gX12_unlike_J3
      rw [zjn_]
      unfold gX12_unlike_J2 unl
      have hz : prM m v w s t - prM m w v s t = 0 ↔ prM m v w s t = prM m w v s t := ⟨fun h => by grind, fun h => by rw [h]; grind⟩
      by_cases he : prM m v w s t = prM m w v s t
      · rw [if_pos ((cmp0 _).mpr (hz.mpr he)), if_pos he, zlt_, ← nI_sc, nI_o 0, nI_add]; rfl
      · rw [if_neg (fun hh => he (hz.mp ((cmp0 _).mp hh))), if_neg he, zlt_, ← nI_sc, nI_o 1, nI_add]; rfl
    · intro r
      show gX12_unlike_L5 0 (mH I J) (nI (2 ^ m)) (nI s) K r _ (nI (2 ^ m)) = _
      unfold gX12_unlike_L5
      rw [if_pos (Int32.le_refl _)]
  refine zlp_it (R := Option (Int32 × Zh)) (z := fun (_ : Int32) (_ : Int32) => (none : Option (Int32 × Zh))) (F := gX12_unlike_L6 0 (mH I J) (nI (2 ^ m))) (fun s (F : Int32 → Int32 → Option (Int32 × Zh)) => F (nI (sN (fun s => sN (unl m v w s) (List.range (2 ^ m))) (List.range s))) (nI s)) _ (2 ^ m) ?_ ?_ zFU (by unfold zFU; omega)
  · intro s hs r
    show gX12_unlike_L6 0 (mH I J) (nI (2 ^ m)) r _ (nI s) = r (nI (sN _ (List.range (s + 1)))) (nI (s + 1))
    rw [sN_range]
    unfold gX12_unlike_L6
    rw [if_neg (zge_n hs (by omega)), zjn_, hl5 s hs]
    unfold gX12_unlike_J1
    rw [← nI_sc]
  · intro r
    show gX12_unlike_L6 0 (mH I J) (nI (2 ^ m)) r _ (nI (2 ^ m)) = _
    unfold gX12_unlike_L6
    rw [if_pos (Int32.le_refl _)]
/-! blocks -/
theorem pS8 {n s : Nat} (hn : n ≤ 6) (hs : s < 2 ^ n) : pS s 8 = pS s n := by
  have := pS_hi hs (8 - n)
  rwa [show n + (8 - n) = 8 by omega] at this
theorem row_z8 {w : Wt} {n s t : Nat} (hn : n ≤ 6) (hs : s < 2 ^ n) (ht : t < 2 ^ n) (h : pS s 8 ≠ pS t 8) : rowN w n s t = 0 := by
  rw [pS8 hn hs, pS8 hn ht] at h
  exact rowN_z h
theorem prM_blk {v w : Wt} {n s t : Nat} (hn : n ≤ 6) (hs : s < 2 ^ n) : prM n v w s t = sF (fun x => rowN v n s x * rowN w n x t) (msL n (pS s 8)) := by
  unfold prM msL
  rw [sF_filt]
  intro x hx hb
  rw [row_z8 hn hs (List.mem_range.mp hx) (fun e => by rw [e, Nat.beq_refl] at hb; cases hb)]
  exact Int64.zero_mul
theorem prM_z {v w : Wt} {n s t : Nat} (hn : n ≤ 6) (hs : s < 2 ^ n) (ht : t < 2 ^ n) (h : pS s 8 ≠ pS t 8) : prM n v w s t = 0 := by
  unfold prM
  have : sF (fun x => rowN v n s x * rowN w n x t) (List.range (2 ^ n)) = sF (fun _ => 0) (List.range (2 ^ n)) := sF_cg _ (fun x hx => by
    have hx := List.mem_range.mp hx
    by_cases hsx : pS s 8 = pS x 8
    · rw [row_z8 hn hx ht (fun e => h (hsx.trans e))]; exact Int64.mul_zero
    · rw [row_z8 hn hs hx hsx]; exact Int64.zero_mul)
  rw [this]
  have z : ∀ l : List Nat, sF (fun _ => 0) l = 0 := fun l => by
    induction l with
    | nil => rfl
    | cons a l ih => show 0 + sF (fun _ => 0) l = 0; rw [ih]; rfl
  exact z _
theorem cm_lt {n s : Nat} (hs : s < 2 ^ n) : cmN n s < 2 ^ n ∧ cmN n (cmN n s) = s := by unfold cmN; omega
theorem prM_c {v w : Wt} {n s t : Nat} (hn : n ≤ 6) (hs : s < 2 ^ n) (ht : t < 2 ^ n) : prM n v w (cmN n s) (cmN n t) = prM n v w s t := by
  unfold prM
  rw [sF_c hn]
  refine sF_cg _ (fun x hx => ?_)
  have hx := List.mem_range.mp hx
  show rowN v n (2 ^ n - 1 - s) (2 ^ n - 1 - x) * rowN w n (2 ^ n - 1 - x) (2 ^ n - 1 - t) = _
  rw [rowN_c v hn hs hx, rowN_c w hn hx ht]
theorem unl_c {v w : Wt} {n s t : Nat} (hn : n ≤ 6) (hs : s < 2 ^ n) (ht : t < 2 ^ n) : unl n v w (cmN n s) (cmN n t) = unl n v w s t := by
  unfold unl
  rw [prM_c hn hs ht, prM_c hn hs ht]
theorem unl_blk {v w : Wt} {n s : Nat} (hn : n ≤ 6) (hs : s < 2 ^ n) : sN (unl n v w s) (List.range (2 ^ n)) = sN (unl n v w s) (msL n (pS s 8)) := by
  unfold msL
  rw [sN_filt]
  intro t ht hb
  have ht := List.mem_range.mp ht
  have hne : pS s 8 ≠ pS t 8 := fun e => by rw [e, Nat.beq_refl] at hb; cases hb
  unfold unl
  rw [prM_z hn hs ht hne, prM_z hn hs ht hne, if_pos rfl]
/-- all pairs that differ, by blocks -/
theorem unl_all {v w : Wt} {n : Nat} (h2 : 2 ≤ n) (hn : n ≤ 6) : sN (fun s => sN (unl n v w s) (List.range (2 ^ n))) (List.range (2 ^ n)) = hlf n (fun u => sN (fun s => sN (unl n v w s) (msL n u)) (msL n u)) (n / 2 + 1) := by
  have e1 : ∀ u, sN (fun s => sN (unl n v w s) (List.range (2 ^ n))) (msL n u) = sN (fun s => sN (unl n v w s) (msL n u)) (msL n u) := fun u => sN_cg _ (fun s hs => by
    obtain ⟨a, b⟩ := ms_mem.mp hs
    rw [unl_blk hn a, b])
  rw [sN_all hn, hlf_ok h2 hn _ (fun u hu => ?_)]
  · congr 1
    funext u
    exact e1 u
  · rw [← e1, ← e1, (ms_c hn hu).1, sN_rev, sN_map]
    refine sN_cg _ (fun s hs => ?_)
    have hs := (ms_mem.mp hs).1
    rw [sN_c hn]
    exact sN_cg _ (fun t ht => unl_c hn hs (List.mem_range.mp ht))
