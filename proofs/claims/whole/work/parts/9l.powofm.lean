/-! the reference's powerOf: H done to all states -/
def acR (N : Nat) (e d : Int32) (v : Int64) (s : Nat) (R : Nat → Int64) : Nat → Nat → Int64
  | 0 => R
  | p + 1 => if s / 2 ^ p % 2 = s / 2 ^ ((p + 1) % N) % 2 then updJ (acR N e d v s R p) s (acR N e d v s R p s + d.toInt64 * v) else updJ (updJ (acR N e d v s R p) s (acR N e d v s R p s + (-d).toInt64 * v)) (fpN N p s) (updJ (acR N e d v s R p) s (acR N e d v s R p s + (-d).toInt64 * v) (fpN N p s) + e.toInt64 * v)
theorem acR_v {N : Nat} {e d : Int32} (h2 : 2 ≤ N) (hN : N ≤ 8) (he1 : 1 ≤ e.toInt) (he2 : e.toInt ≤ 4) (hd1 : -2 ≤ d.toInt) (hd2 : d.toInt ≤ 2) {v : Int64} {s : Nat} (hs : s < 2 ^ N) (R : Nat → Int64) : ∀ p, p ≤ N → ∀ t, acR N e d v s R p t = R t + (aSum N e d s t p).toInt64 * v
  | 0, _, t => by
    show R t = R t + (0 : Int32).toInt64 * v
    have z : (0 : Int32).toInt64 = 0 := rfl
    rw [z]; grind
  | p + 1, hp, t => by
    have ih := fun t => acR_v h2 hN he1 he2 hd1 hd2 (v := v) hs R p (by omega) t
    have hst := aSum_s (N := N) he1 he2 hd1 hd2 s t p (by omega)
    have z : (0 : Int32).toInt64 = 0 := rfl
    show (if s / 2 ^ p % 2 = s / 2 ^ ((p + 1) % N) % 2 then updJ (acR N e d v s R p) s (acR N e d v s R p s + d.toInt64 * v) else updJ (updJ (acR N e d v s R p) s (acR N e d v s R p s + (-d).toInt64 * v)) (fpN N p s) (updJ (acR N e d v s R p) s (acR N e d v s R p s + (-d).toInt64 * v) (fpN N p s) + e.toInt64 * v)) t = _
    rw [hst]
    by_cases h1 : s / 2 ^ p % 2 = s / 2 ^ ((p + 1) % N) % 2
    · rw [if_pos h1]
      unfold updJ aStep
      rw [if_pos h1]
      by_cases h3 : t = s
      · rw [if_pos h3, ih, h3, if_pos rfl]; grind
      · rw [if_neg h3, ih, if_neg (fun hh => h3 hh.symm), z]; grind
    · have hx := (fp_ok h2 hN (show p < N by omega) hs).2 h1
      rw [← fpN_eq] at hx
      have hne := hx.2.2.2.1
      rw [if_neg h1]
      unfold updJ aStep
      rw [if_neg h1]
      by_cases h4 : t = fpN N p s
      · have h3 : ¬ s = t := fun hh => hne (h4.symm.trans hh.symm)
        rw [if_pos h4, if_neg hne, ← h4, ih, if_neg h3, if_pos (show (s ^^^ 2 ^ p) ^^^ 2 ^ ((p + 1) % N) = t from h4.symm)]; grind
      · rw [if_neg h4]
        by_cases h3 : t = s
        · rw [if_pos h3, ih, h3, if_pos rfl]; grind
        · rw [if_neg h3, ih, if_neg (fun hh => h3 hh.symm), if_neg (show ¬ (s ^^^ 2 ^ p) ^^^ 2 ^ ((p + 1) % N) = t from fun hh => h4 hh.symm), z]; grind
def acT (N r : Nat) (e d : Int32) (v : Nat → Int64) (R : Nat → Int64) : Nat → Nat → Int64
  | 0 => R
  | s + 1 => if v s = 0 then acT N r e d v R s else acR N e d (v s) s (acT N r e d v R s) (chP N r)
theorem acT_v {N r : Nat} {e d : Int32} (h2 : 2 ≤ N) (hN : N ≤ 8) (he1 : 1 ≤ e.toInt) (he2 : e.toInt ≤ 4) (hd1 : -2 ≤ d.toInt) (hd2 : d.toInt ≤ 2) (v R : Nat → Int64) (t : Nat) : ∀ z, z ≤ 2 ^ N → acT N r e d v R z t = R t + sF (fun s => hV N r e d s t * v s) (List.range z)
  | 0, _ => by show R t = R t + 0; grind
  | z + 1, hz => by
    have ih := acT_v (r := r) h2 hN he1 he2 hd1 hd2 v R t z (by omega)
    show (if v z = 0 then acT N r e d v R z else acR N e d (v z) z (acT N r e d v R z) (chP N r)) t = _
    rw [sF_range]
    by_cases h1 : v z = 0
    · rw [if_pos h1, ih, h1]; grind
    · rw [if_neg h1, acR_v h2 hN he1 he2 hd1 hd2 (by omega) _ _ (chP_le N r), ih]
      unfold hV
      grind
section Ref
variable {I : Nat → Nat → Int32} {N r : Nat} {e d : Int32}
theorem stM_many {J : Nat → Nat → Int64} (hN : N ≤ 8) (hc : mcAt (mH I J) N r e d) (J' : Nat → Nat → Int64) : gX12_stateMany (mH I J') 0 = some (nI (2 ^ N)) := by
  obtain ⟨sh, -, -⟩ := shl_fin N hN
  have h1 : zI (mH I J') 0 1 = nI N := hc.1
  unfold gX12_stateMany
  rw [h1, sh]
theorem actAll_ok (J : Nat → Nat → Int64) (hc : mcAt (mH I J) N r e d) (h2 : 2 ≤ N) (hN : N ≤ 8) (hr : r ≤ 1) (he1 : 1 ≤ e.toInt) (he2 : e.toInt ≤ 4) (hd1 : -2 ≤ d.toInt) (hd2 : d.toInt ≤ 2) : ∃ J', gX12_actOnAll (mH I J) 0 = some (mH I J') ∧ ∀ t, t < 2 ^ N → J' 11 t = sF (fun s => hV N r e d s t * J 11 s) (List.range (2 ^ N)) := by
  have h256 : 2 ^ N ≤ 2 ^ 8 := Nat.pow_le_pow_right (by decide) hN
  have hsm := stM_many hN hc
  have hPN := chP_le N r
  have hpm : ∀ J', gX12_pairMany (mH I J') 0 = some (nI (chP N r)) := fun J' => pairMany_ok (h := mH I J') (e := e) (d := d) hc h2 hr
  let R0 : Nat → Int64 := pre (2 ^ N) (fun _ => 0) (J 12)
  let R : Nat → Nat → Int64 := acT N r e d (J 11) R0
  refine ⟨zW (zW J 12 (R (2 ^ N))) 11 (pre (2 ^ N) (R (2 ^ N)) (J 11)), ?_, fun t ht => ?_⟩
  · unfold gX12_actOnAll
    rw [zjn_]
    have hz := zlp_it (R := Option Zh) (z := fun (_ : Int32) (_ : Zh) => (none : Option (Zh))) (F := gX12_actOnAll_L9 0 (gX12_actOnAll_J8 0)) (fun t (F : Int32 → Zh → Option Zh) => F (nI t) (mH I (zW J 12 (pre t (fun _ => 0) (J 12))))) (gX12_actOnAll_J8 0 (mH I (zW J 12 R0))) (2 ^ N) ?_ ?_ zFU (by unfold zFU; omega)
    · rw [pre_0, zW_self] at hz
      refine Eq.trans hz ?_
      unfold gX12_actOnAll_J8
      rw [zjn_]
      have hpair : ∀ s, s < 2 ^ N → ∀ K : Zh → Option Zh, zlp (fun (_ : Int32) (_ : Zh) => (none : Option (Zh))) (gX12_actOnAll_L6 0 (nI s) K) zFU 0 (mH I (zW J 12 (R s))) = K (mH I (zW J 12 (R (s + 1)))) := by
        intro s hs K
        have q11 : ∀ R', zJ (mH I (zW J 12 R')) 11 s = J 11 s := fun _ => rfl
        have j11 : ∀ J', zin (nI s) (zL (mH I J') 11) = true := fun J' => min_ (mL_11 _ _) (show s < 256 by omega) (by omega)
        have j12 : ∀ J', zin (nI s) (zL (mH I J') 12) = true := fun J' => min_ (mL_12 _ _) (show s < 256 by omega) (by omega)
        have ys : zx (nI s) = s := zx_nI (by omega)
        by_cases h0 : J 11 s = 0
        · have eR : R (s + 1) = R s := if_pos h0
          rw [eR]
          refine zlp_it (R := Option Zh) (z := fun (_ : Int32) (_ : Zh) => (none : Option (Zh))) (F := gX12_actOnAll_L6 0 (nI s) K) (fun p (F : Int32 → Zh → Option Zh) => F (nI p) (mH I (zW J 12 (R s)))) _ 0 (fun i hi => by omega) (fun rr => ?_) zFU (by unfold zFU; omega)
          show gX12_actOnAll_L6 0 (nI s) K rr (nI 0) (mH I (zW J 12 (R s))) = _
          unfold gX12_actOnAll_L6
          rw [hpm, zbi_s]
          by_cases hp0 : nI (chP N r) ≤ nI 0
          · rw [if_pos hp0]
          · rw [if_neg hp0, zlt_, mR_16, zob_s, j11, zg_1, ys, q11, if_pos ((cmp0 _).mpr h0)]
        · have eR : R (s + 1) = acR N e d (J 11 s) s (R s) (chP N r) := if_neg h0
          rw [eR]
          refine zlp_it (R := Option Zh) (z := fun (_ : Int32) (_ : Zh) => (none : Option (Zh))) (F := gX12_actOnAll_L6 0 (nI s) K) (fun p (F : Int32 → Zh → Option Zh) => F (nI p) (mH I (zW J 12 (acR N e d (J 11 s) s (R s) p)))) _ (chP N r) ?_ ?_ zFU (by unfold zFU; omega)
          · intro p hp rr
            show gX12_actOnAll_L6 0 (nI s) K rr (nI p) (mH I (zW J 12 (acR N e d (J 11 s) s (R s) p))) = rr (nI (p + 1)) (mH I (zW J 12 (if s / 2 ^ p % 2 = s / 2 ^ ((p + 1) % N) % 2 then updJ (acR N e d (J 11 s) s (R s) p) s (acR N e d (J 11 s) s (R s) p s + d.toInt64 * J 11 s) else updJ (updJ (acR N e d (J 11 s) s (R s) p) s (acR N e d (J 11 s) s (R s) p s + (-d).toInt64 * J 11 s)) (fpN N p s) (updJ (acR N e d (J 11 s) s (R s) p) s (acR N e d (J 11 s) s (R s) p s + (-d).toInt64 * J 11 s) (fpN N p s) + e.toInt64 * J 11 s))))
            generalize acR N e d (J 11 s) s (R s) p = W
            have q12 : ∀ R' k, zJ (mH I (zW J 12 R')) 12 k = R' k := fun _ _ => rfl
            have qN : ∀ R', zI (mH I (zW J 12 R')) 0 1 = nI N := fun _ => hc.1
            have q3 : ∀ R', zI (mH I (zW J 12 R')) 0 3 = e := fun _ => hc.2.2.1
            have q4 : ∀ R', zI (mH I (zW J 12 R')) 0 4 = d := fun _ => hc.2.2.2
            obtain ⟨e1, e2⟩ := rem_fin p (by omega) N h2 hN
            have e1' : nI p + 1 - (nI p + 1) / nI N * nI N = nI ((p + 1) % N) := e1
            have hq8 : (p + 1) % N < 8 := Nat.lt_of_lt_of_le (Nat.mod_lt _ (by omega)) hN
            have hal := areAlike_ok s p ((p + 1) % N) 0 (by omega) (by omega) hq8
            obtain ⟨x1, x2⟩ := xor_fin s (by omega) p (by omega)
            obtain ⟨x3, x4⟩ := xor_fin _ x2 _ hq8
            have hfp : fpN N p s < 256 := x4
            have jf : ∀ J', zin (nI (fpN N p s)) (zL (mH I J') 12) = true := fun J' => min_ (mL_12 _ _) hfp (by omega)
            have yf : zx (nI (fpN N p s)) = fpN N p s := zx_nI (by omega)
            have ef : nI ((s ^^^ 2 ^ p) ^^^ 2 ^ ((p + 1) % N)) = nI (fpN N p s) := rfl
            have hJ4 : ∀ k, gX12_actOnAll_J4 (nI p) rr k = rr (nI (p + 1)) k := fun k => by unfold gX12_actOnAll_J4; rw [← nI_sc]
            unfold gX12_actOnAll_L6
            rw [hpm, zbi_s, if_neg (zge_n hp (by omega)), zlt_, mR_16, zob_s, j11, zg_1, ys, q11, if_neg (fun hh => h0 ((cmp0 _).mp hh)), qN, if_neg e2, zlt_, e1', hal, zbi_s, zlt_, mR_17, zob_s, j12, zg_1, zjn_, q4]
            by_cases h1 : s / 2 ^ p % 2 = s / 2 ^ ((p + 1) % N) % 2
            · rw [if_pos h1, if_pos h1, if_neg (show ¬ (1 : Int32) = 0 by decide)]
              unfold gX12_actOnAll_J5
              rw [zlt_, mR_16, zob_s, j11, zg_1, j12, zg_1, zlt_, ys, q12, q11, msJ, zW_J, zjn_, if_neg (show ¬ (1 : Int32) = 0 by decide), hJ4]
            · rw [if_neg h1, if_neg h1, if_pos (show (0 : Int32) = 0 from rfl)]
              unfold gX12_actOnAll_J5
              rw [zlt_, mR_16, zob_s, j11, zg_1, j12, zg_1, zlt_, ys, q12, q11, msJ, zW_J, zjn_, if_pos (show (0 : Int32) = 0 from rfl), zlt_, mR_17, zlt_, x1, x3, ef, zob_s, jf, zg_1, zlt_, mR_16, zob_s, j11, zg_1, zg_1, zlt_, yf, q12, q3, q11, msJ, zW_J, hJ4]
          · intro rr
            show gX12_actOnAll_L6 0 (nI s) K rr (nI (chP N r)) _ = _
            unfold gX12_actOnAll_L6
            rw [hpm, zbi_s, if_pos (Int32.le_refl _)]
      have hall := zlp_it (R := Option Zh) (z := fun (_ : Int32) (_ : Zh) => (none : Option (Zh))) (F := gX12_actOnAll_L7 0 (gX12_actOnAll_J2 0)) (fun s (F : Int32 → Zh → Option Zh) => F (nI s) (mH I (zW J 12 (R s)))) (gX12_actOnAll_J2 0 (mH I (zW J 12 (R (2 ^ N))))) (2 ^ N) ?_ ?_ zFU (by unfold zFU; omega)
      · refine Eq.trans hall ?_
        unfold gX12_actOnAll_J2
        have hcp := zlp_it (R := Option Zh) (z := fun (_ : Int32) (_ : Zh) => (none : Option (Zh))) (F := gX12_actOnAll_L1 0) (fun k (F : Int32 → Zh → Option Zh) => F (nI k) (mH I (zW (zW J 12 (R (2 ^ N))) 11 (pre k (R (2 ^ N)) (J 11))))) (some (mH I (zW (zW J 12 (R (2 ^ N))) 11 (pre (2 ^ N) (R (2 ^ N)) (J 11))))) (2 ^ N) ?_ ?_ zFU (by unfold zFU; omega)
        · have e2 : zW (zW J 12 (R (2 ^ N))) 11 (pre 0 (R (2 ^ N)) (J 11)) = zW J 12 (R (2 ^ N)) := by
            rw [pre_0]
            exact zW_self (zW J 12 (R (2 ^ N))) 11
          rw [e2] at hcp
          exact hcp
        · intro k hk rr
          show gX12_actOnAll_L1 0 rr (nI k) (mH I (zW (zW J 12 (R (2 ^ N))) 11 (pre k (R (2 ^ N)) (J 11)))) = rr (nI (k + 1)) (mH I (zW (zW J 12 (R (2 ^ N))) 11 (pre (k + 1) (R (2 ^ N)) (J 11))))
          have q1 : zJ (mH I (zW (zW J 12 (R (2 ^ N))) 11 (pre k (R (2 ^ N)) (J 11)))) 12 k = R (2 ^ N) k := rfl
          unfold gX12_actOnAll_L1
          rw [hsm, zbi_s, if_neg (zge_n hk (by omega)), zlt_, mR_16, zlt_, mR_17, zob_s, min_ (mL_12 _ _) (show k < 256 by omega) (by omega), zg_1, zob_s, min_ (mL_11 _ _) (show k < 256 by omega) (by omega), zg_1, zlt_, zx_nI (by omega), q1, msJ, zW_J, pre_s, ← nI_sc]
        · intro rr
          show gX12_actOnAll_L1 0 rr (nI (2 ^ N)) _ = _
          unfold gX12_actOnAll_L1
          rw [hsm, zbi_s, if_pos (Int32.le_refl _)]
      · intro s hs rr
        show gX12_actOnAll_L7 0 (gX12_actOnAll_J2 0) rr (nI s) (mH I (zW J 12 (R s))) = rr (nI (s + 1)) (mH I (zW J 12 (R (s + 1))))
        unfold gX12_actOnAll_L7
        rw [hsm, zbi_s, if_neg (zge_n hs (by omega)), zjn_, hpair s hs]
        unfold gX12_actOnAll_J3
        rw [← nI_sc]
      · intro rr
        show gX12_actOnAll_L7 0 (gX12_actOnAll_J2 0) rr (nI (2 ^ N)) _ = _
        unfold gX12_actOnAll_L7
        rw [hsm, zbi_s, if_pos (Int32.le_refl _)]
    · intro t ht rr
      show gX12_actOnAll_L9 0 (gX12_actOnAll_J8 0) rr (nI t) (mH I (zW J 12 (pre t (fun _ => 0) (J 12)))) = rr (nI (t + 1)) (mH I (zW J 12 (pre (t + 1) (fun _ => 0) (J 12))))
      have hs := pre_s (fun _ => (0 : Int64)) (J 12) t
      unfold gX12_actOnAll_L9
      rw [hsm, zbi_s, if_neg (zge_n ht (by omega)), zlt_, mR_17, zob_s, min_ (mL_12 _ _) (show t < 256 by omega) (by omega), zg_1, zlt_, zx_nI (by omega), msJ, zW_J, hs, ← nI_sc]
    · intro rr
      show gX12_actOnAll_L9 0 (gX12_actOnAll_J8 0) rr (nI (2 ^ N)) _ = _
      unfold gX12_actOnAll_L9
      rw [hsm, zbi_s, if_pos (Int32.le_refl _)]
  · rw [zW_e, pre_i _ _ ht]
    show acT N r e d (J 11) R0 (2 ^ N) t = _
    rw [acT_v h2 hN he1 he2 hd1 hd2 _ _ _ _ (Nat.le_refl _)]
    show pre (2 ^ N) (fun _ => 0) (J 12) t + _ = _
    rw [pre_i _ _ ht]; grind
theorem actN_ok (h2 : 2 ≤ N) (hN : N ≤ 8) (hr : r ≤ 1) (he1 : 1 ≤ e.toInt) (he2 : e.toInt ≤ 4) (hd1 : -2 ≤ d.toInt) (hd2 : d.toInt ≤ 2) {f a : Nat} (K : Zh → Option (Int64 × Zh)) : ∀ (u k : Nat) (J : Nat → Nat → Int64) (fu : Nat), k + u = a → u < fu → a < 2 ^ 31 → mcAt (mH I J) N r e d → (∀ t, t < 2 ^ N → J 11 t = vK N r e d f k t) → ∃ J', zlp (fun (_ : Int32) (_ : Zh) => (none : Option (Int64 × Zh))) (gX12_powerOf_L4 0 (nI a) K) fu (nI k) (mH I J) = K (mH I J') ∧ ∀ t, t < 2 ^ N → J' 11 t = vK N r e d f a t := by
  intro u
  induction u with
  | zero =>
    intro k J fu hk hfu _ hc hv
    obtain ⟨fu, rfl⟩ : ∃ f, fu = f + 1 := ⟨fu - 1, by omega⟩
    have : k = a := by omega
    subst this
    refine ⟨J, ?_, hv⟩
    show gX12_powerOf_L4 0 (nI k) K _ (nI k) _ = _
    unfold gX12_powerOf_L4
    rw [if_pos (Int32.le_refl _)]
  | succ u ih =>
    intro k J fu hk hfu ha hc hv
    obtain ⟨fu, rfl⟩ : ∃ f, fu = f + 1 := ⟨fu - 1, by omega⟩
    obtain ⟨J1, g1, g2⟩ := actAll_ok J hc h2 hN hr he1 he2 hd1 hd2
    obtain ⟨J', r1, r2⟩ := ih (k + 1) J1 fu (by omega) (by omega) ha hc (fun t ht => by
      rw [g2 t ht]
      exact sF_cg _ (fun s hs => by rw [hv s (List.mem_range.mp hs)]))
    refine ⟨J', ?_, r2⟩
    rw [← r1]
    show gX12_powerOf_L4 0 (nI a) K (zlp (fun (_ : Int32) (_ : Zh) => (none : Option (Int64 × Zh))) (gX12_powerOf_L4 0 (nI a) K) fu) (nI k) (mH I J) = _
    generalize zlp (fun (_ : Int32) (_ : Zh) => (none : Option (Int64 × Zh))) (gX12_powerOf_L4 0 (nI a) K) fu = Z
    unfold gX12_powerOf_L4
    rw [if_neg (zge_n (show k < a by omega) (by omega)), g1, zbV_s, ← nI_sc]
theorem powOfM (h2 : 2 ≤ N) (hN : N ≤ 8) (hr : r ≤ 1) (he1 : 1 ≤ e.toInt) (he2 : e.toInt ≤ 4) (hd1 : -2 ≤ d.toInt) (hd2 : d.toInt ≤ 2) {m a : Nat} (hm : m ≤ N) (ha : a ≤ 4) : ∀ (u s : Nat) (J : Nat → Nat → Int64) (fu : Nat), s + u = 2 ^ N → u < fu → mcAt (mH I J) N r e d → ∃ J', zlp (fun (_ : Int64) (_ : Int32) (_ : Zh) => (none : Option (Int64 × Zh))) (gX12_powerOf_L8 0 (nI m) (nI a)) fu (sF (fun f => vK N r e d f a f) (mlT m s)) (nI s) (mH I J) = some (sF (fun f => vK N r e d f a f) (mlL N m), mH I J') := by
  have h256 : 2 ^ N ≤ 2 ^ 8 := Nat.pow_le_pow_right (by decide) hN
  intro u
  induction u with
  | zero =>
    intro s J fu hs hfu hc
    obtain ⟨fu, rfl⟩ : ∃ f, fu = f + 1 := ⟨fu - 1, by omega⟩
    have es : s = 2 ^ N := by omega
    refine ⟨J, ?_⟩
    show gX12_powerOf_L8 0 (nI m) (nI a) _ _ (nI s) _ = _
    unfold gX12_powerOf_L8
    rw [stM_many hN hc, zbi_s, es, if_pos (Int32.le_refl _)]
    rfl
  | succ u ih =>
    intro s J fu hs hfu hc
    obtain ⟨fu, rfl⟩ : ∃ f, fu = f + 1 := ⟨fu - 1, by omega⟩
    have hlt : s < 2 ^ N := by omega
    have hpo : poN s < 16 := Nat.mod_lt _ (by decide)
    have hsm := stM_many hN hc
    have step : ∀ Z : Int64 → Int32 → Zh → Option (Int64 × Zh), ∃ J', gX12_powerOf_L8 0 (nI m) (nI a) Z (sF (fun f => vK N r e d f a f) (mlT m s)) (nI s) (mH I J) = Z (sF (fun f => vK N r e d f a f) (mlT m (s + 1))) (nI (s + 1)) (mH I J') := by
      intro Z
      have hJ2 : ∀ v k, gX12_powerOf_J2 (nI s) Z v k = Z v (nI (s + 1)) k := fun v k => by unfold gX12_powerOf_J2; rw [← nI_sc]
      unfold gX12_powerOf_L8
      rw [hsm, zbi_s, if_neg (zge_n hlt (by omega)), (popc_ok (show s < 256 by omega)).1, zbi_s, zjn_, mlT_s]
      by_cases e1 : poN s = m
      · rw [if_pos (show nI (syg 4 popK s) = nI m by rw [← e1]), if_pos e1, zjn_]
        generalize hK : gX12_powerOf_J5 0 (nI a) (sF (fun f => vK N r e d f a f) (mlT m s)) (nI s) (gX12_powerOf_J2 (nI s) Z) = K
        have hun := zlp_it (R := Option (Int64 × Zh)) (z := fun (_ : Int32) (_ : Zh) => (none : Option (Int64 × Zh))) (F := gX12_powerOf_L7 0 (nI s) K) (fun t (F : Int32 → Zh → Option (Int64 × Zh)) => F (nI t) (mH I (zW J 11 (pre t (vK N r e d s 0) (J 11))))) (K (mH I (zW J 11 (pre (2 ^ N) (vK N r e d s 0) (J 11))))) (2 ^ N) ?_ ?_ zFU (by unfold zFU; omega)
        · rw [pre_0, zW_self] at hun
          obtain ⟨J1, r1, r2⟩ := actN_ok (I := I) h2 hN hr he1 he2 hd1 hd2 (f := s) (a := a) (gX12_powerOf_J3 0 (sF (fun f => vK N r e d f a f) (mlT m s)) (nI s) (gX12_powerOf_J2 (nI s) Z)) a 0 (zW J 11 (pre (2 ^ N) (vK N r e d s 0) (J 11))) zFU (by omega) (by unfold zFU; omega) (by omega) hc (fun t ht => by rw [zW_e, pre_i _ _ ht])
          refine ⟨J1, hun.trans ?_⟩
          rw [← hK]
          unfold gX12_powerOf_J5
          rw [zjn_]
          refine r1.trans ?_
          have q : zJ (mH I J1) 11 s = vK N r e d s a s := r2 s hlt
          unfold gX12_powerOf_J3
          rw [zlt_, mR_16, zob_s, min_ (mL_11 _ _) (show s < 256 by omega) (by omega), zg_1, zlt_, zx_nI (by omega), q, hJ2, sF_app]
          refine congrArg (fun v => Z v (nI (s + 1)) (mH I J1)) ?_
          show _ = _ + (vK N r e d s a s + 0)
          grind
        · intro t ht rr
          show gX12_powerOf_L7 0 (nI s) K rr (nI t) (mH I (zW J 11 (pre t (vK N r e d s 0) (J 11)))) = rr (nI (t + 1)) (mH I (zW J 11 (pre (t + 1) (vK N r e d s 0) (J 11))))
          have hps := pre_s (vK N r e d s 0) (J 11) t
          have hJ6 : ∀ v, v = vK N r e d s 0 t → gX12_powerOf_J6 (nI t) (mH I (zW J 11 (pre t (vK N r e d s 0) (J 11)))) rr (some 11) v = rr (nI (t + 1)) (mH I (zW J 11 (pre (t + 1) (vK N r e d s 0) (J 11)))) := fun v hv => by
            unfold gX12_powerOf_J6
            rw [zob_s, min_ (mL_11 _ _) (show t < 256 by omega) (by omega), zg_1, zlt_, zx_nI (by omega), msJ, zW_J, hv, hps, ← nI_sc]
          unfold gX12_powerOf_L7
          rw [hsm, zbi_s, if_neg (zge_n ht (by omega)), zlt_, mR_16, zjn_]
          by_cases h1 : t = s
          · rw [if_pos (by rw [h1])]
            exact hJ6 1 (if_pos h1).symm
          · rw [if_neg (fun hh => h1 ((nI_inj (by omega) (by omega)).mp hh))]
            exact hJ6 0 (if_neg h1).symm
        · intro rr
          show gX12_powerOf_L7 0 (nI s) K rr (nI (2 ^ N)) _ = _
          unfold gX12_powerOf_L7
          rw [hsm, zbi_s, if_pos (Int32.le_refl _)]
      · refine ⟨J, ?_⟩
        rw [if_neg (show ¬ nI (syg 4 popK s) = nI m from fun hh => e1 ((nI_inj (by omega) (by omega)).mp hh)), if_neg e1, hJ2]
    obtain ⟨J1, g1⟩ := step (zlp (fun (_ : Int64) (_ : Int32) (_ : Zh) => (none : Option (Int64 × Zh))) (gX12_powerOf_L8 0 (nI m) (nI a)) fu)
    obtain ⟨J', g2⟩ := ih (s + 1) J1 fu (by omega) (by omega) hc
    exact ⟨J', g1.trans g2⟩
end Ref
theorem powerOf_st {QR : Qs} {h : Zh} {o : Nat → Nat} {L : Led} {n : Nat} {w : Nat → Wt} {S : Nat → Option Sh} {fa tr : Int32} {I : Nat → Nat → Int32} {J : Nat → Nat → Int64} (hq : qrOk QR) (p : stX (seC QTc QR) h o L n w S fa tr) (q : stM I L n w S fa tr) (k : stOk L n w S) (x1 x2 : Int32) : stG (seC QTc QR) (gX11_powerOf h 0 x1 x2) (gX12_powerOf (mH I J) 0 x1 x2) h := by
  obtain ⟨cc, c1, c2⟩ := cn_st p k.1
  obtain ⟨k1, k2, k3, k4, k5, k6, k7⟩ := (k.1.2.2 _ k.1.1).1
  have hmc := mc_st (J := J) q
  have e3 : x2 < 1 ↔ x2.toInt < 1 := Int32.lt_iff_toInt_lt
  have e4 : x2 ≤ 4 ↔ x2.toInt ≤ 4 := Int32.le_iff_toInt_le
  have hlM : gX12_powerOf_J1 (mH I J) = some (-9223372036854775808, mH I J) := by
    unfold gX12_powerOf_J1 gX12_lost
    rw [zbj_s]
  have hN1 : zI (mH I J) 0 1 = nI (L.1 L.2.2.1).1 := hmc.1
  unfold gX11_powerOf gX12_powerOf
  rw [hN1, inN_ok (by omega), zbi_s, zjn_, in_ii, show (1 : Int64).toInt = 1 from rfl, show (4 : Int64).toInt = 4 from rfl, hlM, zbi_s]
  have hout : ¬ (1 ≤ x2.toInt ∧ x2.toInt ≤ 4) → ∀ K : Option (Int64 × Zh), (if x2 < 1 then some ((-9223372036854775808 : Int64), h) else if x2 ≤ 4 then K else some (-9223372036854775808, h)) = some (-9223372036854775808, h) := fun hh K => by
    by_cases f1 : x2 < 1
    · rw [if_pos f1]
    · rw [if_neg f1, if_neg (fun f2 => hh ⟨Int.not_lt.mp (fun f3 => f1 (e3.mpr f3)), e4.mp f2⟩)]
  rcases noSec_ok c1 c2.2.1 hmc.1 k2 x1 1 with ⟨e1, e2⟩ | ⟨m, g, hm, hg, rfl, hgg, e1, e2⟩
  · have hni : ¬ inR x1 ((L.1 L.2.2.1).1 + 1) := fun hh => by
      have h3 : gX12_noSector (mH I J) 0 x1 1 = some 0 := by
        unfold gX12_noSector
        rw [hN1, inN_ok (by omega), zbi_s, zjn_, if_pos hh, if_neg (show ¬ (1 : Int32) = 0 by decide), zjn_, if_pos rfl]
        rfl
      rw [h3] at e2
      exact absurd (Option.some.inj e2) (by decide)
    rw [e1, zbi_s, if_neg (show ¬ (1 : Int32) = 0 by decide), if_neg hni, if_pos rfl]
    exact stG_0 p q k _
  · have hin : inR (nI m) ((L.1 L.2.2.1).1 + 1) := by
      unfold inR
      rw [nI_int (by omega)]
      omega
    have hg0 : g = 0 := by
      rcases (show g = 0 ∨ g = 1 by omega) with e | e
      · exact e
      · rw [e] at hgg
        exact absurd hgg (by decide)
    subst hg0
    rw [e1, zbi_s, if_pos (show (0 : Int32) = 0 from rfl), if_pos hin, if_neg (show ¬ (1 : Int32) = 0 by decide)]
    by_cases hx : 1 ≤ x2.toInt ∧ x2.toInt ≤ 4
    · rw [if_pos hx, if_neg (show ¬ (1 : Int32) = 0 by decide), if_neg (fun hh => by have := e3.mp hh; omega), if_pos (e4.mpr hx.2)]
      obtain ⟨a, ha, rfl⟩ := inR_f (x := x2) (n := 5) (by unfold inR; omega)
      have ha1 : 1 ≤ a := by have := hx.1; rw [nI_int (by omega)] at this; omega
      obtain ⟨h1, o1, s, c, s1, p1, b1, kk, bN, bS⟩ := sectorOf_ok p k.1 hm (show 0 ≤ 1 by omega)
      obtain ⟨h2, o2, t1, p2, tN, tS⟩ := powAll_ok hq p1 b1 kk ha1 (show a ≤ 4 by omega)
      obtain ⟨J', r1⟩ := powOfM (I := I) (m := m) (a := a) k1 k2 k3 k4 k5 k6 k7 hm (by omega) (2 ^ (L.1 L.2.2.1).1) 0 J zFU (by omega) (by
        have : 2 ^ (L.1 L.2.2.1).1 ≤ 2 ^ 8 := Nat.pow_le_pow_right (by decide) k2
        unfold zFU
        omega) hmc
      have s1' : gX11_sectorOf h 0 (nI m) 1 = some (some s, h1) := s1
      rw [s1', zbR_s, zob_s, t1, zbJ_s]
      exact ⟨_, h2, I, J', o2, L, n, w, S, fa, tr, rfl, r1, p2, q, k, by omega, by omega⟩
    · rw [if_neg hx, if_pos rfl, hout hx]
      exact stG_0 p q k _
