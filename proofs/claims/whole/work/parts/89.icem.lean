/-! walls and ice in the reference -/
theorem wallsM {I : Nat → Nat → Int32} (J : Nat → Nat → Int64) {n : Nat} {w : Nat → Wt} (q : weiM I n w) (hn : n ≤ 6) {k : Nat} (hk : k < n) {m : Nat} (hm : m ≤ 6) : ∃ J', zlp (fun (_ : Int32) (_ : Zh) => (none : Option (Int32 × Zh))) (gX12_walls_L11 0 (nI (2 ^ m)) (gX12_walls_J9 0 (nI k) (nI m) (nI (2 ^ m)))) zFU 0 (mH I J) = some ((mP (vP (fun s t => (alN (w k) m s t 1 0).toInt) (2 ^ m) 0 m (2 ^ m - 1))).toInt32, mH I J') := by
  have h64 : 2 ^ m ≤ 2 ^ 6 := Nat.pow_le_pow_right (by decide) hm
  have hz1 : 1 ≤ 2 ^ m := Nat.pos_of_ne_zero (by have := Nat.pow_pos (n := m) (show 0 < 2 by decide); omega)
  have hst := fun J v hv K => wallsStep (I := I) J q hn hk hm (v := v) hv K
  generalize hA : (fun s t => (alN (w k) m s t 1 0).toInt) = A at *
  generalize hz : 2 ^ m = z at *
  have hl11 : ∀ K : Zh → Option (Int32 × Zh), zlp (fun (_ : Int32) (_ : Zh) => (none : Option (Int32 × Zh))) (gX12_walls_L11 0 (nI z) K) zFU 0 (mH I J) = K (mH I (zW J 11 (cpJ (J 11) (fun t => mP (vP A z 0 0 t)) z))) := by
    intro K
    have hh := zlp_it (R := Option (Int32 × Zh)) (z := fun (_ : Int32) (_ : Zh) => (none : Option (Int32 × Zh))) (F := gX12_walls_L11 0 (nI z) K) (fun t (F : Int32 → Zh → Option (Int32 × Zh)) => F (nI t) (mH I (zW J 11 (cpJ (J 11) (fun t => mP (vP A z 0 0 t)) t)))) (K (mH I (zW J 11 (cpJ (J 11) (fun t => mP (vP A z 0 0 t)) z)))) z ?_ ?_ zFU (by unfold zFU; omega)
    · rw [cpJ_0, zW_self] at hh
      exact hh
    · intro t ht r
      show gX12_walls_L11 0 (nI z) K r (nI t) (mH I (zW J 11 (cpJ (J 11) (fun t => mP (vP A z 0 0 t)) t))) = r (nI (t + 1)) (mH I (zW J 11 (cpJ (J 11) (fun t => mP (vP A z 0 0 t)) (t + 1))))
      rw [← cpJ_s]
      show _ = r (nI (t + 1)) (mH I (zW J 11 (updJ (cpJ (J 11) (fun t => mP (vP A z 0 0 t)) t) t (mP (if t = 0 then 1 else 0)))))
      generalize cpJ (J 11) (fun t => mP (vP A z 0 0 t)) t = f
      unfold gX12_walls_L11
      rw [if_neg (zge_n ht (by omega)), zlt_, mR_16, zjn_]
      have hJ : ∀ x, gX12_walls_J10 (nI t) (mH I (zW J 11 f)) r (some 11) x = r (nI (t + 1)) (mH I (zW J 11 (updJ f t x))) := fun x => by
        unfold gX12_walls_J10
        rw [zob_s, min_ (mL_11 _ _) (show t < 256 by omega) (by omega), zg_1, zx_nI (show t < 2 ^ 31 by omega), msJ, zW_J, zlt_, ← nI_sc]
      by_cases h0 : t = 0
      · rw [if_pos (by rw [h0]; rfl), if_pos h0, hJ, mP_1]
      · rw [if_neg (show ¬ nI t = 0 from fun hh => h0 ((nI_inj (b := 0) (by omega) (by omega)).mp hh)), if_neg h0, hJ, mP_0]
    · intro r
      show gX12_walls_L11 0 (nI z) K r (nI z) _ = _
      unfold gX12_walls_L11
      rw [if_pos (Int32.le_refl _)]
  have hl3 : ∀ (J : Nat → Nat → Int64) (K : Zh → Option (Int32 × Zh)), zlp (fun (_ : Int32) (_ : Zh) => (none : Option (Int32 × Zh))) (gX12_walls_L3 0 (nI z) K) zFU 0 (mH I J) = K (mH I (zW J 11 (cpJ (J 11) (J 12) z))) := by
    intro J K
    have hh := zlp_it (R := Option (Int32 × Zh)) (z := fun (_ : Int32) (_ : Zh) => (none : Option (Int32 × Zh))) (F := gX12_walls_L3 0 (nI z) K) (fun t (F : Int32 → Zh → Option (Int32 × Zh)) => F (nI t) (mH I (zW J 11 (cpJ (J 11) (J 12) t)))) (K (mH I (zW J 11 (cpJ (J 11) (J 12) z)))) z ?_ ?_ zFU (by unfold zFU; omega)
    · rw [cpJ_0, zW_self] at hh
      exact hh
    · intro t ht r
      show gX12_walls_L3 0 (nI z) K r (nI t) (mH I (zW J 11 (cpJ (J 11) (J 12) t))) = r (nI (t + 1)) (mH I (zW J 11 (cpJ (J 11) (J 12) (t + 1))))
      rw [← cpJ_s]
      generalize cpJ (J 11) (J 12) t = f
      have h12 : zW J 11 f 12 t = J 12 t := by rw [zW_n _ _ _ _ (by decide)]
      unfold gX12_walls_L3
      rw [if_neg (zge_n ht (by omega))]
      repeat (first | rw [mR_16] | rw [mR_17] | rw [min_ (mL_11 _ _) (show t < 256 by omega) (by omega)] | rw [min_ (mL_12 _ _) (show t < 256 by omega) (by omega)] | rw [zx_nI (show t < 2 ^ 31 by omega)] | rw [mJ_] | rw [h12] | rw [msJ] | rw [zW_J] | rw [← nI_sc] | rw [zlt_] | rw [zjn_] | rw [zob_s] | rw [zg_1] | rw [zbi_s] | rw [zbI_s] | rw [zbr_s] | rw [zbR_s] | rw [zbV_s] | rw [zbj_s] | rw [zbJ_s] | rw [zcs_s] | rw [zcs_n])
    · intro r
      show gX12_walls_L3 0 (nI z) K r (nI z) _ = _
      unfold gX12_walls_L3
      rw [if_pos (Int32.le_refl _)]
  rw [hl11]
  unfold gX12_walls_J9
  rw [zjn_]
  have hgo : ∀ (d r : Nat) (J : Nat → Nat → Int64) (fu : Nat), r + d = m → d < fu → (∀ t, t < z → J 11 t = mP (vP A z 0 r t)) → ∃ J', zlp (fun (_ : Int32) (_ : Zh) => (none : Option (Int32 × Zh))) (gX12_walls_L8 0 (nI k) (nI m) (nI z) (gX12_walls_J1 0 (nI z))) fu (nI r) (mH I J) = some ((mP (vP A z 0 m (z - 1))).toInt32, mH I J') := by
    intro d
    induction d with
    | zero =>
      intro r J fu hr hfu hJ
      have : r = m := by omega
      subst this
      obtain ⟨fu, rfl⟩ : ∃ f, fu = f + 1 := ⟨fu - 1, by omega⟩
      refine ⟨J, ?_⟩
      show gX12_walls_L8 0 (nI k) (nI r) (nI z) _ _ (nI r) _ = _
      unfold gX12_walls_L8
      rw [if_pos (Int32.le_refl _)]
      have ez : nI z - 1 = nI (z - 1) := by
        have : nI z = nI (z - 1) + 1 := by rw [← nI_sc]; congr 1; omega
        rw [this]; grind
      unfold gX12_walls_J1
      rw [zlt_, mR_16, zob_s, ez, min_ (mL_11 _ _) (show z - 1 < 256 by omega) (by omega), zg_1, zx_nI (show z - 1 < 2 ^ 31 by omega), mJ_, hJ (z - 1) (by omega)]
    | succ d ih =>
      intro r J fu hr hfu hJ
      obtain ⟨fu, rfl⟩ : ∃ f, fu = f + 1 := ⟨fu - 1, by omega⟩
      have h12 : ∀ t, t < z → cpJ (J 12) (fun t => mP (vS A z (vP A z 0 r) t)) z t = mP (vP A z 0 (r + 1) t) := fun t ht => if_pos ht
      have hs := hst J (vP A z 0 r) hJ
      generalize cpJ (J 12) (fun t => mP (vS A z (vP A z 0 r) t)) z = F12 at h12 hs
      obtain ⟨J', hJ'⟩ := ih (r + 1) (zW (zW J 12 F12) 11 (cpJ ((zW J 12 F12) 11) ((zW J 12 F12) 12) z)) fu (by omega) (by omega) (fun t ht => by
        rw [zW_e]
        show (if t < z then zW J 12 F12 12 t else _) = _
        rw [if_pos ht, zW_e]
        exact h12 t ht)
      refine ⟨J', ?_⟩
      rw [← hJ']
      show gX12_walls_L8 0 (nI k) (nI m) (nI z) _ _ (nI r) (mH I J) = _
      generalize zlp (fun (_ : Int32) (_ : Zh) => (none : Option (Int32 × Zh))) (gX12_walls_L8 0 (nI k) (nI m) (nI z) (gX12_walls_J1 0 (nI z))) fu = Z
      unfold gX12_walls_L8
      rw [if_neg (zge_n (show r < m by omega) (by omega)), zjn_, hs]
      unfold gX12_walls_J4
      rw [zjn_, hl3]
      unfold gX12_walls_J2
      rw [← nI_sc]
  exact hgo m 0 _ zFU (by omega) (by unfold zFU; omega) (fun t ht => by rw [zW_e]; exact if_pos ht)
theorem iceStep {I : Nat → Nat → Int32} (J : Nat → Nat → Int64) {w : Wt} {m : Nat} (hm : m ≤ 6) (hR : ∀ s t, s < 2 ^ m → t < 2 ^ m → J 18 (64 * s + t) = rowN w m s t) {v : Nat → Int} (hv : ∀ t, t < 2 ^ m → J 11 t = mP (v t)) (K : Zh → Option (Int32 × Zh)) : zlp (fun (_ : Int32) (_ : Zh) => (none : Option (Int32 × Zh))) (gX12_ice_L8 0 (nI (2 ^ m)) K) zFU 0 (mH I J) = K (mH I (zW J 12 (cpJ (J 12) (fun t => mP (vS (fun s t => (rowN w m s t).toInt) (2 ^ m) v t)) (2 ^ m)))) := by
  have h64 : 2 ^ m ≤ 2 ^ 6 := Nat.pow_le_pow_right (by decide) hm
  generalize hA : (fun s t => (rowN w m s t).toInt) = A
  generalize hz : 2 ^ m = z at *
  let g := fun t => mP (vS A z v t)
  have hl6 : ∀ t, t < z → ∀ (f : Nat → Int64) (K : Zh → Option (Int32 × Zh)), zlp (fun (_ : Int32) (_ : Zh) => (none : Option (Int32 × Zh))) (gX12_ice_L7 0 (nI z) (nI t) K) zFU 0 (mH I (zW J 12 (updJ f t 0))) = K (mH I (zW J 12 (updJ f t (g t)))) := by
    intro t ht f K
    have hh := zlp_it (R := Option (Int32 × Zh)) (z := fun (_ : Int32) (_ : Zh) => (none : Option (Int32 × Zh))) (F := gX12_ice_L7 0 (nI z) (nI t) K) (fun s (F : Int32 → Zh → Option (Int32 × Zh)) => F (nI s) (mH I (zW J 12 (updJ f t (mP (iS (fun s => v s * A s t) (List.range s))))))) (K (mH I (zW J 12 (updJ f t (g t))))) z ?_ ?_ zFU (by unfold zFU; omega)
    · have e0 : mP (iS (fun s => v s * A s t) (List.range 0)) = 0 := mP_0
      rw [e0] at hh
      exact hh
    · intro s hs r
      show gX12_ice_L7 0 (nI z) (nI t) K r (nI s) (mH I (zW J 12 (updJ f t (mP (iS (fun s => v s * A s t) (List.range s)))))) = r (nI (s + 1)) (mH I (zW J 12 (updJ f t (mP (iS (fun s => v s * A s t) (List.range (s + 1)))))))
      rw [iS_range]
      generalize iS (fun s => v s * A s t) (List.range s) = acc
      have h18 : zW J 12 (updJ f t (mP acc)) 18 (64 * s + t) = rowN w m s t := by rw [zW_n _ _ _ _ (by decide)]; exact hR s t hs ht
      have e64 : 64 * nI s + nI t = nI (64 * s + t) := by rw [nI_o 64, pk_mul, nI_add]
      have h11 : zW J 12 (updJ f t (mP acc)) 11 s = mP (v s) := by rw [zW_n _ _ _ _ (by decide)]; exact hv s hs
      have h12 : zW J 12 (updJ f t (mP acc)) 12 t = mP acc := by rw [zW_e, updJ_e]
      have hA' : (rowN w m s t).toInt = A s t := congrFun (congrFun hA s) t
      unfold gX12_ice_L7
      rw [if_neg (zge_n hs (by omega))]
      repeat (first | rw [mR_16] | rw [mR_17] | rw [mR_24] | rw [e64] | rw [min_ (mL_18 _ _) (show 64 * s + t < 4096 by omega) (by omega)] | rw [zx_nI (show 64 * s + t < 2 ^ 31 by omega)] | rw [h18] | rw [min_ (mL_12 _ _) (show t < 256 by omega) (by omega)] | rw [min_ (mL_11 _ _) (show s < 256 by omega) (by omega)] | rw [zx_nI (show s < 2 ^ 31 by omega)] | rw [zx_nI (show t < 2 ^ 31 by omega)] | rw [mJ_] | rw [restBy_ok (rowN w m s t)] | rw [hA'] | rw [h11] | rw [h12] | rw [restBy_mac] | rw [msJ] | rw [zW_J] | rw [updJ2] | rw [← nI_sc] | rw [zlt_] | rw [zjn_] | rw [zob_s] | rw [zg_1] | rw [zbi_s] | rw [zbI_s] | rw [zbr_s] | rw [zbR_s] | rw [zbV_s] | rw [zbj_s] | rw [zbJ_s] | rw [zcs_s] | rw [zcs_n])
    · intro r
      show gX12_ice_L7 0 (nI z) (nI t) K r (nI z) _ = _
      unfold gX12_ice_L7
      rw [if_pos (Int32.le_refl _)]
      rfl
  have hh := zlp_it (R := Option (Int32 × Zh)) (z := fun (_ : Int32) (_ : Zh) => (none : Option (Int32 × Zh))) (F := gX12_ice_L8 0 (nI z) K) (fun t (F : Int32 → Zh → Option (Int32 × Zh)) => F (nI t) (mH I (zW J 12 (cpJ (J 12) g t)))) (K (mH I (zW J 12 (cpJ (J 12) g z)))) z ?_ ?_ zFU (by unfold zFU; omega)
  · rw [cpJ_0, zW_self] at hh
    exact hh
  · intro t ht r
    show gX12_ice_L8 0 (nI z) K r (nI t) (mH I (zW J 12 (cpJ (J 12) g t))) = r (nI (t + 1)) (mH I (zW J 12 (cpJ (J 12) g (t + 1))))
    unfold gX12_ice_L8
    rw [if_neg (zge_n ht (by omega))]
    repeat (first | rw [mR_17] | rw [min_ (mL_12 _ _) (show t < 256 by omega) (by omega)] | rw [zx_nI (show t < 2 ^ 31 by omega)] | rw [msJ] | rw [zW_J] | rw [zlt_] | rw [zjn_] | rw [zob_s] | rw [zg_1] | rw [zbi_s] | rw [zbI_s] | rw [zbr_s] | rw [zbR_s] | rw [zbV_s] | rw [zbj_s] | rw [zbJ_s] | rw [zcs_s] | rw [zcs_n])
    rw [hl6 t ht, cpJ_s]
    unfold gX12_ice_J6
    rw [← nI_sc]
  · intro r
    show gX12_ice_L8 0 (nI z) K r (nI z) _ = _
    unfold gX12_ice_L8
    rw [if_pos (Int32.le_refl _)]
theorem iceM {I : Nat → Nat → Int32} (J : Nat → Nat → Int64) {w : Wt} {m y : Nat} (hm : m ≤ 6) (hy : y ≤ 8) (hR : ∀ s t, s < 2 ^ m → t < 2 ^ m → J 18 (64 * s + t) = rowN w m s t) : ∃ J', zlp (fun (_ : Int64) (_ : Int32) (_ : Zh) => (none : Option (Int32 × Zh))) (gX12_ice_L13 0 (nI y) (nI (2 ^ m)) gX12_ice_J1) zFU 0 0 (mH I J) = some ((mP (iS (fun s => vP (fun s t => (rowN w m s t).toInt) (2 ^ m) s y s) (List.range (2 ^ m)))).toInt32, mH I J') := by
  have h64 : 2 ^ m ≤ 2 ^ 6 := Nat.pow_le_pow_right (by decide) hm
  have hz1 : 1 ≤ 2 ^ m := Nat.pos_of_ne_zero (by have := Nat.pow_pos (n := m) (show 0 < 2 by decide); omega)
  have hst := fun J hR v hv K => iceStep (I := I) J (w := w) hm hR (v := v) hv K
  generalize hB : rowN w m = B at *
  generalize hA : (fun s t => (B s t).toInt) = A at *
  generalize hz : 2 ^ m = z at *
  have hl12 : ∀ (s : Nat) (hs : s < z) (J : Nat → Nat → Int64) (K : Zh → Option (Int32 × Zh)), zlp (fun (_ : Int32) (_ : Zh) => (none : Option (Int32 × Zh))) (gX12_ice_L12 0 (nI z) (nI s) K) zFU 0 (mH I J) = K (mH I (zW J 11 (cpJ (J 11) (fun t => mP (vP A z s 0 t)) z))) := by
    intro s hs J K
    have hh := zlp_it (R := Option (Int32 × Zh)) (z := fun (_ : Int32) (_ : Zh) => (none : Option (Int32 × Zh))) (F := gX12_ice_L12 0 (nI z) (nI s) K) (fun t (F : Int32 → Zh → Option (Int32 × Zh)) => F (nI t) (mH I (zW J 11 (cpJ (J 11) (fun t => mP (vP A z s 0 t)) t)))) (K (mH I (zW J 11 (cpJ (J 11) (fun t => mP (vP A z s 0 t)) z)))) z ?_ ?_ zFU (by unfold zFU; omega)
    · rw [cpJ_0, zW_self] at hh
      exact hh
    · intro t ht r
      show gX12_ice_L12 0 (nI z) (nI s) K r (nI t) (mH I (zW J 11 (cpJ (J 11) (fun t => mP (vP A z s 0 t)) t))) = r (nI (t + 1)) (mH I (zW J 11 (cpJ (J 11) (fun t => mP (vP A z s 0 t)) (t + 1))))
      rw [← cpJ_s]
      show _ = r (nI (t + 1)) (mH I (zW J 11 (updJ (cpJ (J 11) (fun t => mP (vP A z s 0 t)) t) t (mP (if t = s then 1 else 0)))))
      generalize cpJ (J 11) (fun t => mP (vP A z s 0 t)) t = f
      unfold gX12_ice_L12
      rw [if_neg (zge_n ht (by omega)), zlt_, mR_16, zjn_]
      have hJ : ∀ x, gX12_ice_J11 (nI t) (mH I (zW J 11 f)) r (some 11) x = r (nI (t + 1)) (mH I (zW J 11 (updJ f t x))) := fun x => by
        unfold gX12_ice_J11
        rw [zob_s, min_ (mL_11 _ _) (show t < 256 by omega) (by omega), zg_1, zx_nI (show t < 2 ^ 31 by omega), msJ, zW_J, zlt_, ← nI_sc]
      by_cases h0 : t = s
      · rw [if_pos (by rw [h0]), if_pos h0, hJ, mP_1]
      · rw [if_neg (show ¬ nI t = nI s from fun hh => h0 ((nI_inj (by omega) (by omega)).mp hh)), if_neg h0, hJ, mP_0]
    · intro r
      show gX12_ice_L12 0 (nI z) (nI s) K r (nI z) _ = _
      unfold gX12_ice_L12
      rw [if_pos (Int32.le_refl _)]
  have hl4 : ∀ (J : Nat → Nat → Int64) (K : Zh → Option (Int32 × Zh)), zlp (fun (_ : Int32) (_ : Zh) => (none : Option (Int32 × Zh))) (gX12_ice_L4 0 (nI z) K) zFU 0 (mH I J) = K (mH I (zW J 11 (cpJ (J 11) (J 12) z))) := by
    intro J K
    have hh := zlp_it (R := Option (Int32 × Zh)) (z := fun (_ : Int32) (_ : Zh) => (none : Option (Int32 × Zh))) (F := gX12_ice_L4 0 (nI z) K) (fun t (F : Int32 → Zh → Option (Int32 × Zh)) => F (nI t) (mH I (zW J 11 (cpJ (J 11) (J 12) t)))) (K (mH I (zW J 11 (cpJ (J 11) (J 12) z)))) z ?_ ?_ zFU (by unfold zFU; omega)
    · rw [cpJ_0, zW_self] at hh
      exact hh
    · intro t ht r
      show gX12_ice_L4 0 (nI z) K r (nI t) (mH I (zW J 11 (cpJ (J 11) (J 12) t))) = r (nI (t + 1)) (mH I (zW J 11 (cpJ (J 11) (J 12) (t + 1))))
      rw [← cpJ_s]
      generalize cpJ (J 11) (J 12) t = f
      have h12 : zW J 11 f 12 t = J 12 t := by rw [zW_n _ _ _ _ (by decide)]
      unfold gX12_ice_L4
      rw [if_neg (zge_n ht (by omega))]
      repeat (first | rw [mR_16] | rw [mR_17] | rw [min_ (mL_11 _ _) (show t < 256 by omega) (by omega)] | rw [min_ (mL_12 _ _) (show t < 256 by omega) (by omega)] | rw [zx_nI (show t < 2 ^ 31 by omega)] | rw [mJ_] | rw [h12] | rw [msJ] | rw [zW_J] | rw [← nI_sc] | rw [zlt_] | rw [zjn_] | rw [zob_s] | rw [zg_1] | rw [zbi_s] | rw [zbI_s] | rw [zbr_s] | rw [zbR_s] | rw [zbV_s] | rw [zbj_s] | rw [zbJ_s] | rw [zcs_s] | rw [zcs_n])
    · intro r
      show gX12_ice_L4 0 (nI z) K r (nI z) _ = _
      unfold gX12_ice_L4
      rw [if_pos (Int32.le_refl _)]
  have hl9 : ∀ (s : Nat) (d r : Nat) (J : Nat → Nat → Int64) (fu : Nat), r + d = y → d < fu → (∀ s t, s < z → t < z → J 18 (64 * s + t) = B s t) → (∀ t, t < z → J 11 t = mP (vP A z s r t)) → ∃ J', (∀ K : Zh → Option (Int32 × Zh), zlp (fun (_ : Int32) (_ : Zh) => (none : Option (Int32 × Zh))) (gX12_ice_L9 0 (nI y) (nI z) K) fu (nI r) (mH I J) = K (mH I J')) ∧ (∀ s t, s < z → t < z → J' 18 (64 * s + t) = B s t) ∧ ∀ t, t < z → J' 11 t = mP (vP A z s y t) := by
    intro s d
    induction d with
    | zero =>
      intro r J fu hr hfu h18 hJ
      have : r = y := by omega
      subst this
      obtain ⟨fu, rfl⟩ : ∃ f, fu = f + 1 := ⟨fu - 1, by omega⟩
      refine ⟨J, fun K => ?_, h18, hJ⟩
      show gX12_ice_L9 0 (nI r) (nI z) _ _ (nI r) _ = _
      unfold gX12_ice_L9
      rw [if_pos (Int32.le_refl _)]
    | succ d ih =>
      intro r J fu hr hfu h18 hJ
      obtain ⟨fu, rfl⟩ : ∃ f, fu = f + 1 := ⟨fu - 1, by omega⟩
      have h12 : ∀ t, t < z → cpJ (J 12) (fun t => mP (vS A z (vP A z s r) t)) z t = mP (vP A z s (r + 1) t) := fun t ht => if_pos ht
      have hs := hst J h18 (vP A z s r) hJ
      generalize cpJ (J 12) (fun t => mP (vS A z (vP A z s r) t)) z = F12 at h12 hs
      obtain ⟨J', hJ', k1, k2⟩ := ih (r + 1) (zW (zW J 12 F12) 11 (cpJ ((zW J 12 F12) 11) ((zW J 12 F12) 12) z)) fu (by omega) (by omega) (fun s t h1 h2 => by
        rw [zW_n _ _ _ _ (by decide), zW_n _ _ _ _ (by decide)]
        exact h18 s t h1 h2) (fun t ht => by
        rw [zW_e]
        show (if t < z then zW J 12 F12 12 t else _) = _
        rw [if_pos ht, zW_e]
        exact h12 t ht)
      refine ⟨J', fun K => ?_, k1, k2⟩
      rw [← hJ' K]
      show gX12_ice_L9 0 (nI y) (nI z) _ _ (nI r) (mH I J) = _
      generalize zlp (fun (_ : Int32) (_ : Zh) => (none : Option (Int32 × Zh))) (gX12_ice_L9 0 (nI y) (nI z) K) fu = Z
      unfold gX12_ice_L9
      rw [if_neg (zge_n (show r < y by omega) (by omega)), zjn_, hs]
      unfold gX12_ice_J5
      rw [zjn_, hl4]
      unfold gX12_ice_J3
      rw [← nI_sc]
  have hgo : ∀ (d s : Nat) (J : Nat → Nat → Int64) (fu : Nat), s + d = z → d < fu → (∀ s t, s < z → t < z → J 18 (64 * s + t) = B s t) → ∃ J', zlp (fun (_ : Int64) (_ : Int32) (_ : Zh) => (none : Option (Int32 × Zh))) (gX12_ice_L13 0 (nI y) (nI z) gX12_ice_J1) fu (mP (iS (fun s => vP A z s y s) (List.range s))) (nI s) (mH I J) = some ((mP (iS (fun s => vP A z s y s) (List.range z))).toInt32, mH I J') := by
    intro d
    induction d with
    | zero =>
      intro s J fu hs hfu h18
      have : s = z := by omega
      subst this
      obtain ⟨fu, rfl⟩ : ∃ f, fu = f + 1 := ⟨fu - 1, by omega⟩
      refine ⟨J, ?_⟩
      show gX12_ice_L13 0 (nI y) (nI s) _ _ _ (nI s) _ = _
      unfold gX12_ice_L13
      rw [if_pos (Int32.le_refl _)]
      rfl
    | succ d ih =>
      intro s J fu hs hfu h18
      obtain ⟨fu, rfl⟩ : ∃ f, fu = f + 1 := ⟨fu - 1, by omega⟩
      have hsz : s < z := by omega
      have hl := hl12 s hsz J
      have h11 : ∀ t, t < z → cpJ (J 11) (fun t => mP (vP A z s 0 t)) z t = mP (vP A z s 0 t) := fun t ht => if_pos ht
      generalize cpJ (J 11) (fun t => mP (vP A z s 0 t)) z = F11 at hl h11
      obtain ⟨J2, b1, b2, b3⟩ := hl9 s y 0 (zW J 11 F11) zFU (by omega) (by unfold zFU; omega) (fun s t h1 h2 => by rw [zW_n _ _ _ _ (by decide)]; exact h18 s t h1 h2) (fun t ht => by rw [zW_e]; exact h11 t ht)
      obtain ⟨J', hJ'⟩ := ih (s + 1) J2 fu (by omega) (by omega) b2
      refine ⟨J', ?_⟩
      rw [← hJ']
      show gX12_ice_L13 0 (nI y) (nI z) _ _ _ (nI s) (mH I J) = _
      generalize zlp (fun (_ : Int64) (_ : Int32) (_ : Zh) => (none : Option (Int32 × Zh))) (gX12_ice_L13 0 (nI y) (nI z) gX12_ice_J1) fu = Z
      rw [iS_range]
      generalize iS (fun s => vP A z s y s) (List.range s) = acc
      have hfin : gX12_restBy (mP acc + mP (vP A z s y s)) = some (mP (acc + vP A z s y s)) := by
        have h1 := restBy_mac acc (vP A z s y s) 1
        rw [mP_1, Int.mul_one, show mP (vP A z s y s) * 1 = mP (vP A z s y s) from by grind] at h1
        exact h1
      unfold gX12_ice_L13
      rw [if_neg (zge_n hsz (by omega)), zjn_, hl]
      unfold gX12_ice_J10
      have b1' : ∀ K : Zh → Option (Int32 × Zh), zlp (fun (_ : Int32) (_ : Zh) => (none : Option (Int32 × Zh))) (gX12_ice_L9 0 (nI y) (nI z) K) zFU 0 (mH I (zW J 11 F11)) = K (mH I J2) := b1
      rw [zjn_, b1']
      unfold gX12_ice_J2
      rw [zlt_, mR_16, zob_s, min_ (mL_11 _ _) (show s < 256 by omega) (by omega), zg_1, zx_nI (show s < 2 ^ 31 by omega), mJ_, b3 s hsz, hfin, zbj_s, ← nI_sc]
  have h0 := hgo z 0 J zFU (by omega) (by unfold zFU; omega) hR
  exact h0
