/-! the reference's rest -/
section Ref
variable {I : Nat → Nat → Int32} {n : Nat} {T : Nat → Nat → Int64} {p : Nat → Int64}
theorem diG_s (n : Nat) (f : Nat → Int64) (v : Int64) (i : Nat) : updJ (diG n f v i) (10 * i + i) (f (10 * i + i) + v) = diG n f v (i + 1) := by
  funext y
  unfold updJ diG
  by_cases h1 : y = 10 * i + i
  · rw [if_pos h1, h1, if_pos (by omega)]
  · rw [if_neg h1]
    by_cases h2 : y % 11 = 0 ∧ y / 11 < i
    · rw [if_pos h2, if_pos (by omega)]
    · rw [if_neg h2, if_neg (by omega)]
theorem diG_0 (n : Nat) (f : Nat → Int64) (v : Int64) : diG n f v 0 = f := funext fun y => if_neg (by omega)
theorem diG_i (n : Nat) (f : Nat → Int64) (v : Int64) (i : Nat) : diG n f v i (10 * i + i) = f (10 * i + i) := if_neg (by omega)
theorem diG_v {n : Nat} (hn : n ≤ 10) (f : Nat → Int64) (v : Int64) {i j : Nat} (hi : i < n) (hj : j < n) : diG n f v n (10 * i + j) = f (10 * i + j) + (if i = j then v else 0) := by
  unfold diG
  by_cases h : i = j
  · rw [if_pos h, if_pos (by omega)]
  · rw [if_neg h, if_neg (by omega)]; grind
theorem ulO (a : Int) : uO a * 1099511627776 + lO a = oI a := by
  have h1 : (1099511627776 : Int64) = oI 1099511627776 := by decide
  unfold uO lO
  rw [h1, ← oI_mul, ← oI_add]
  exact congrArg oI (by omega)
theorem adjoint_ok (h5 : I 0 5 = nI n) (hn : n ≤ 10) (hn1 : 0 < n) (J : Nat → Nat → Int64) (hT : ∀ i j, i < n → j < n → J 5 (10 * i + j) = T i j) (h0 : p 0 = 1) {x1 : Int32} (hJ : ∀ k, k ≤ n → J 9 k = uO (shF x1.toInt n p (n - k)) ∧ J 10 k = lO (shF x1.toInt n p (n - k))) : ∃ J', gX12_layAdjoint (mH I J) 0 x1 = some (mH I J') ∧ (∀ i j, i < n → j < n → J' 7 (10 * i + j) = rsM T n p x1.toInt i j) := by
  have v5 : ∀ J', zI (mH I J') 0 5 = nI n := fun _ => h5
  have jd5 : ∀ i, i < n → ∀ J', zin (nI (10 * i + i)) (zL (mH I J') 5) = true := fun i hi J' => min_ (mL_5 _ _) (by omega) (by omega)
  have jd7 : ∀ i, i < n → ∀ J', zin (nI (10 * i + i)) (zL (mH I J') 7) = true := fun i hi J' => min_ (mL_7 _ _) (by omega) (by omega)
  have yd : ∀ i, i < n → zx (nI (10 * i + i)) = 10 * i + i := fun i hi => zx_nI (by omega)
  unfold gX12_layAdjoint
  rw [zlt_, v5, zjn_]
  have hsub := zlp_it (R := Option Zh) (z := fun (_ : Int32) (_ : Zh) => (none : Option (Zh))) (F := gX12_layAdjoint_L7 0 x1 (nI n) (gX12_layAdjoint_J6 0 x1 (nI n))) (fun i (F : Int32 → Zh → Option Zh) => F (nI i) (mH I (zW J 5 (diG n (J 5) (-x1.toInt64) i)))) (gX12_layAdjoint_J6 0 x1 (nI n) (mH I (zW J 5 (diG n (J 5) (-x1.toInt64) n)))) n ?_ ?_ zFU (by unfold zFU; omega)
  · rw [diG_0, zW_self] at hsub
    generalize hJ1 : zW J 5 (diG n (J 5) (-x1.toInt64) n) = J1 at *
    have a5 : ∀ i j, i < n → j < n → J1 5 (10 * i + j) = lesC T (oI x1.toInt) i j := fun i j hi hj => by
      rw [← hJ1, zW_e, diG_v hn _ _ hi hj, hT i j hi hj]
      unfold lesC
      rw [oI_c]
      by_cases h : i = j
      · rw [if_pos h, if_pos h]; grind
      · rw [if_neg h, if_neg h]; grind
    have ao : ∀ a, a ≠ 5 → J1 a = J a := fun a ha => by rw [← hJ1, zW_n _ _ _ _ ha]
    have key : ∀ (u k : Nat) (J2 : Nat → Nat → Int64) (fu : Nat), k + 1 + u = n → u < fu → (∀ i j, i < n → j < n → J2 5 (10 * i + j) = lesC T (oI x1.toInt) i j) → (∀ a, a = 9 ∨ a = 10 → J2 a = J a) → (∀ i j, i < n → j < n → J2 7 (10 * i + j) = flM (lesC T (oI x1.toInt)) n (fun m => oI (shF x1.toInt n p m)) k i j) → ∃ J', zlp (fun (_ : Int32) (_ : Zh) => (none : Option (Zh))) (gX12_layAdjoint_L5 0 (nI n) (gX12_layAdjoint_J2 0 x1 (nI n))) fu (nI (k + 1)) (mH I J2) = some (mH I J') ∧ ∀ i j, i < n → j < n → J' 7 (10 * i + j) = rsM T n p x1.toInt i j := by
      intro u
      induction u with
      | zero =>
        intro k J2 fu hk hfu f1 f2 f3
        obtain ⟨fu, rfl⟩ : ∃ f, fu = f + 1 := ⟨fu - 1, by omega⟩
        have ek : k + 1 = n := by omega
        have ek' : k = n - 1 := by omega
        have hadd := zlp_it (R := Option Zh) (z := fun (_ : Int32) (_ : Zh) => (none : Option (Zh))) (F := gX12_layAdjoint_L1 0 x1 (nI n)) (fun i (F : Int32 → Zh → Option Zh) => F (nI i) (mH I (zW J2 5 (diG n (J2 5) x1.toInt64 i)))) (some (mH I (zW J2 5 (diG n (J2 5) x1.toInt64 n)))) n ?_ ?_ zFU (by unfold zFU; omega)
        · rw [diG_0, zW_self] at hadd
          refine ⟨zW J2 5 (diG n (J2 5) x1.toInt64 n), ?_, fun i j hi hj => ?_⟩
          · show gX12_layAdjoint_L5 0 (nI n) (gX12_layAdjoint_J2 0 x1 (nI n)) _ (nI (k + 1)) (mH I J2) = some (mH I (zW J2 5 (diG n (J2 5) x1.toInt64 n)))
            unfold gX12_layAdjoint_L5
            rw [ek, if_pos (Int32.le_refl _)]
            exact hadd
          · rw [zW_n _ _ _ _ (by decide), f3 i j hi hj, ek']
            exact rsM_eq h0 hn1 hi hj
        · intro i hi rr
          show gX12_layAdjoint_L1 0 x1 (nI n) rr (nI i) (mH I (zW J2 5 (diG n (J2 5) x1.toInt64 i))) = rr (nI (i + 1)) (mH I (zW J2 5 (diG n (J2 5) x1.toInt64 (i + 1))))
          have q : ∀ y, zJ (mH I (zW J2 5 (diG n (J2 5) x1.toInt64 i))) 5 y = diG n (J2 5) x1.toInt64 i y := fun _ => rfl
          unfold gX12_layAdjoint_L1
          rw [if_neg (zge_n hi (by omega)), zlt_, mR_10, zlt_, e11l, zob_s, jd5 i hi, zg_1, zg_1, zlt_, yd i hi, q, diG_i, msJ, zW_J, diG_s, ← nI_sc]
        · intro rr
          show gX12_layAdjoint_L1 0 x1 (nI n) rr (nI n) _ = _
          unfold gX12_layAdjoint_L1
          rw [if_pos (Int32.le_refl _)]
      | succ u ih =>
        intro k J2 fu hk hfu f1 f2 f3
        obtain ⟨fu, rfl⟩ : ∃ f, fu = f + 1 := ⟨fu - 1, by omega⟩
        obtain ⟨J3, g1, g2, g3⟩ := timesT_ok h5 hn J2 f1 f3
        have q9 : zJ (mH I J3) 9 (n - (k + 1)) = uO (shF x1.toInt n p (k + 1)) := by
          show J3 9 (n - (k + 1)) = _
          rw [g3 9 (by decide) (by decide), f2 9 (Or.inl rfl), (hJ (n - (k + 1)) (by omega)).1, show n - (n - (k + 1)) = k + 1 by omega]
        have q10 : zJ (mH I J3) 10 (n - (k + 1)) = lO (shF x1.toInt n p (k + 1)) := by
          show J3 10 (n - (k + 1)) = _
          rw [g3 10 (by decide) (by decide), f2 10 (Or.inr rfl), (hJ (n - (k + 1)) (by omega)).2, show n - (n - (k + 1)) = k + 1 by omega]
        have hdia : ∀ K : Zh → Option Zh, zlp (fun (_ : Int32) (_ : Zh) => (none : Option (Zh))) (gX12_layAdjoint_L4 0 (nI n) (oI (shF x1.toInt n p (k + 1))) K) zFU 0 (mH I J3) = K (mH I (zW J3 7 (diG n (J3 7) (oI (shF x1.toInt n p (k + 1))) n))) := by
          intro K
          have hh := zlp_it (R := Option Zh) (z := fun (_ : Int32) (_ : Zh) => (none : Option (Zh))) (F := gX12_layAdjoint_L4 0 (nI n) (oI (shF x1.toInt n p (k + 1))) K) (fun i (F : Int32 → Zh → Option Zh) => F (nI i) (mH I (zW J3 7 (diG n (J3 7) (oI (shF x1.toInt n p (k + 1))) i)))) (K (mH I (zW J3 7 (diG n (J3 7) (oI (shF x1.toInt n p (k + 1))) n)))) n ?_ ?_ zFU (by unfold zFU; omega)
          · rw [diG_0, zW_self] at hh
            exact hh
          · intro i hi rr
            show gX12_layAdjoint_L4 0 (nI n) (oI (shF x1.toInt n p (k + 1))) K rr (nI i) (mH I (zW J3 7 (diG n (J3 7) (oI (shF x1.toInt n p (k + 1))) i))) = rr (nI (i + 1)) (mH I (zW J3 7 (diG n (J3 7) (oI (shF x1.toInt n p (k + 1))) (i + 1))))
            have q : ∀ y, zJ (mH I (zW J3 7 (diG n (J3 7) (oI (shF x1.toInt n p (k + 1))) i))) 7 y = diG n (J3 7) (oI (shF x1.toInt n p (k + 1))) i y := fun _ => rfl
            unfold gX12_layAdjoint_L4
            rw [if_neg (zge_n hi (by omega)), zlt_, mR_12, zlt_, e11l, zob_s, jd7 i hi, zg_1, zg_1, zlt_, yd i hi, q, diG_i, msJ, zW_J, diG_s, ← nI_sc]
          · intro rr
            show gX12_layAdjoint_L4 0 (nI n) (oI (shF x1.toInt n p (k + 1))) K rr (nI n) _ = _
            unfold gX12_layAdjoint_L4
            rw [if_pos (Int32.le_refl _)]
        obtain ⟨J', r1, r2⟩ := ih (k + 1) (zW J3 7 (diG n (J3 7) (oI (shF x1.toInt n p (k + 1))) n)) fu (by omega) (by omega) (fun i j hi hj => by
          rw [zW_n _ _ _ _ (by decide), g3 5 (by decide) (by decide)]; exact f1 i j hi hj) (fun a ha => by
          rw [zW_n _ _ _ _ (by omega), g3 a (by omega) (by omega)]; exact f2 a ha) (fun i j hi hj => by
          rw [zW_e, diG_v hn _ _ hi hj, g2 i j hi hj]; rfl)
        refine ⟨J', ?_, r2⟩
        rw [← r1]
        show gX12_layAdjoint_L5 0 (nI n) (gX12_layAdjoint_J2 0 x1 (nI n)) (zlp (fun (_ : Int32) (_ : Zh) => (none : Option (Zh))) (gX12_layAdjoint_L5 0 (nI n) (gX12_layAdjoint_J2 0 x1 (nI n))) fu) (nI (k + 1)) (mH I J2) = _
        generalize zlp (fun (_ : Int32) (_ : Zh) => (none : Option (Zh))) (gX12_layAdjoint_L5 0 (nI n) (gX12_layAdjoint_J2 0 x1 (nI n))) fu = Z
        unfold gX12_layAdjoint_L5
        rw [if_neg (zge_n (show k + 1 < n by omega) (by omega)), g1, zbV_s, zlt_, mR_14, zob_s, nI_sub2 (show k + 1 ≤ n by omega), min_ (mL_9 _ _) (show n - (k + 1) < 11 by omega) (by omega), zg_1, zlt_, mR_15, zob_s, min_ (mL_10 _ _) (show n - (k + 1) < 11 by omega) (by omega), zg_1, zlt_, zx_nI (show n - (k + 1) < 2 ^ 31 by omega), q9, q10, ulO, zjn_, hdia]
        unfold gX12_layAdjoint_J3
        rw [← nI_sc]
    obtain ⟨J', r1, r2⟩ := key (n - 1) 0 (zW J1 7 (pre 100 (fun k => if k % 11 = 0 then 1 else 0) (J1 7))) zFU (by omega) (by unfold zFU; omega) (fun i j hi hj => by
      rw [zW_n _ _ _ _ (by decide)]; exact a5 i j hi hj) (fun a ha => by
      rw [zW_n _ _ _ _ (by omega)]; exact ao a (by omega)) (fun i j hi hj => unitP_v hn J1 hi hj)
    refine ⟨J', hsub.trans ?_, r2⟩
    unfold gX12_layAdjoint_J6
    rw [unitP_ok, zbV_s, zjn_]
    exact r1
  · intro i hi rr
    show gX12_layAdjoint_L7 0 x1 (nI n) (gX12_layAdjoint_J6 0 x1 (nI n)) rr (nI i) (mH I (zW J 5 (diG n (J 5) (-x1.toInt64) i))) = rr (nI (i + 1)) (mH I (zW J 5 (diG n (J 5) (-x1.toInt64) (i + 1))))
    have q : ∀ y, zJ (mH I (zW J 5 (diG n (J 5) (-x1.toInt64) i))) 5 y = diG n (J 5) (-x1.toInt64) i y := fun _ => rfl
    have em : J 5 (10 * i + i) - x1.toInt64 = J 5 (10 * i + i) + (-x1.toInt64) := by grind
    unfold gX12_layAdjoint_L7
    rw [if_neg (zge_n hi (by omega)), zlt_, mR_10, zlt_, e11l, zob_s, jd5 i hi, zg_1, zg_1, zlt_, yd i hi, q, diG_i, em, msJ, zW_J, diG_s, ← nI_sc]
  · intro rr
    show gX12_layAdjoint_L7 0 x1 (nI n) (gX12_layAdjoint_J6 0 x1 (nI n)) rr (nI n) _ = _
    unfold gX12_layAdjoint_L7
    rw [if_pos (Int32.le_refl _)]
/-- the first column that isn't 0 -/
theorem column_ok (h5 : I 0 5 = nI n) (hn : n ≤ 10) (J : Nat → Nat → Int64) {M : Nat → Nat → Int64} (hM : ∀ i j, i < n → j < n → J 7 (10 * i + j) = M i j) (hne : ∃ j, j < n ∧ anyC M n j = true) (K : Int32 → Option (Int32 × Zh)) : zlp (fun (_ : Int32) (_ : Int32) => (none : Option (Int32 × Zh))) (gX12_layRest_L14 0 (mH I J) K) zFU 0 0 = K (nI (fstJ (anyC M n) n 0)) := by
  have v5 : zI (mH I J) 0 5 = nI n := h5
  obtain ⟨⟨-, f2, f3⟩, f4⟩ := fstJ_ok (anyC M n) n 0 (by
    obtain ⟨j, a1, a2⟩ := hne
    exact ⟨j, by omega, by omega, a2⟩)
  generalize fstJ (anyC M n) n 0 = j0 at *
  have hany : ∀ j, j < n → ∀ K : Int32 → Option (Int32 × Zh), zlp (fun (_ : Int32) (_ : Int32) => (none : Option (Int32 × Zh))) (gX12_layRest_L13 0 (mH I J) (nI j) K) zFU 0 0 = K (if anyC M n j = true then 1 else 0) := by
    intro j hj K
    refine zlp_it (R := Option (Int32 × Zh)) (z := fun (_ : Int32) (_ : Int32) => (none : Option (Int32 × Zh))) (F := gX12_layRest_L13 0 (mH I J) (nI j) K) (fun i (F : Int32 → Int32 → Option (Int32 × Zh)) => F (if anyC M i j = true then 1 else 0) (nI i)) _ n ?_ ?_ zFU (by unfold zFU; omega)
    · intro i hi rr
      show gX12_layRest_L13 0 (mH I J) (nI j) K rr (if anyC M i j = true then 1 else 0) (nI i) = rr (if anyC M (i + 1) j = true then 1 else 0) (nI (i + 1))
      have q : zJ (mH I J) 7 (10 * i + j) = M i j := hM i j hi hj
      have hs : anyC M (i + 1) j = (anyC M i j || decide (M i j ≠ 0)) := by
        unfold anyC
        rw [List.range_succ, List.any_append]
        simp
      unfold gX12_layRest_L13
      rw [v5, if_neg (zge_n hi (by omega)), zjn_, zjn_, hs]
      unfold gX12_layRest_J12 gX12_layRest_J11
      cases hc : anyC M i j with
      | true =>
        rw [if_pos rfl, if_neg (show ¬ (1 : Int32) = 0 by decide), ← nI_sc]
        rfl
      | false =>
        rw [if_neg (show ¬ false = true by decide), if_pos (show (0 : Int32) = 0 from rfl), zlt_, mR_12, zob_s, e10l, min_ (mL_7 _ _) (show 10 * i + j < 100 by omega) (by omega), zg_1, zx_nI (show 10 * i + j < 2 ^ 31 by omega), q]
        by_cases h1 : M i j = 0
        · rw [if_pos ((cmp0 _).mpr h1), decide_eq_false (show ¬ M i j ≠ 0 from fun hh => hh h1), ← nI_sc]; rfl
        · rw [if_neg (fun hh => h1 ((cmp0 _).mp hh)), decide_eq_true (show M i j ≠ 0 from h1), ← nI_sc]; rfl
    · intro rr
      show gX12_layRest_L13 0 (mH I J) (nI j) K rr _ (nI n) = _
      unfold gX12_layRest_L13
      rw [v5, if_pos (Int32.le_refl _)]
  have key : ∀ (u j fu : Nat), j + u = j0 → u + 1 < fu → zlp (fun (_ : Int32) (_ : Int32) => (none : Option (Int32 × Zh))) (gX12_layRest_L14 0 (mH I J) K) fu (nI j) 0 = K (nI j0) := by
    intro u
    induction u with
    | zero =>
      intro j fu hj hfu
      obtain ⟨fu, rfl⟩ : ∃ f, fu = f + 1 + 1 := ⟨fu - 2, by omega⟩
      have : j = j0 := by omega
      subst this
      show gX12_layRest_L14 0 (mH I J) K (zlp (fun (_ : Int32) (_ : Int32) => (none : Option (Int32 × Zh))) (gX12_layRest_L14 0 (mH I J) K) (fu + 1)) (nI j) 0 = _
      have hz : zlp (fun (_ : Int32) (_ : Int32) => (none : Option (Int32 × Zh))) (gX12_layRest_L14 0 (mH I J) K) (fu + 1) (nI j) 1 = K (nI j) := by
        show gX12_layRest_L14 0 (mH I J) K _ (nI j) 1 = _
        unfold gX12_layRest_L14
        rw [if_neg (show ¬ (1 : Int32) = 0 by decide)]
      generalize zlp (fun (_ : Int32) (_ : Int32) => (none : Option (Int32 × Zh))) (gX12_layRest_L14 0 (mH I J) K) (fu + 1) = Z at *
      unfold gX12_layRest_L14
      rw [if_pos (show (0 : Int32) = 0 from rfl), zjn_, hany j (by omega), if_pos f3]
      unfold gX12_layRest_J10 gX12_layRest_J9
      rw [zjn_, if_neg (show ¬ (1 : Int32) = 0 by decide)]
      show zlt (nI j + 0) (fun x60 => Z x60 1) = _
      rw [zlt_, show nI j + 0 = nI j by grind, hz]
    | succ u ih =>
      intro j fu hj hfu
      obtain ⟨fu, rfl⟩ : ∃ f, fu = f + 1 := ⟨fu - 1, by omega⟩
      show gX12_layRest_L14 0 (mH I J) K (zlp (fun (_ : Int32) (_ : Int32) => (none : Option (Int32 × Zh))) (gX12_layRest_L14 0 (mH I J) K) fu) (nI j) 0 = _
      have ih' := ih (j + 1) fu (by omega) (by omega)
      generalize zlp (fun (_ : Int32) (_ : Int32) => (none : Option (Int32 × Zh))) (gX12_layRest_L14 0 (mH I J) K) fu = Z at *
      unfold gX12_layRest_L14
      rw [if_pos (show (0 : Int32) = 0 from rfl), zjn_, hany j (by omega), f4 j (by omega) (by omega), if_neg (show ¬ false = true by decide)]
      unfold gX12_layRest_J10 gX12_layRest_J9
      rw [zjn_, if_pos (show (0 : Int32) = 0 from rfl)]
      show zlt (nI j + 1) (fun x60 => Z x60 0) = _
      rw [zlt_, ← nI_sc, ih']
  exact key j0 0 zFU (by omega) (by unfold zFU; omega)
/-- divisor, sign, division -/
theorem reduceM (h5 : I 0 5 = nI n) (hn : n ≤ 10) (J : Nat → Nat → Int64) {j0 : Nat} (hj0 : j0 < n) {col : Nat → Int64} (hM : ∀ i, i < n → J 7 (10 * i + j0) = col i) (hd : gdV col n ≠ 0) : ∃ J', gX12_layRest_J8 0 (mH I J) (nI j0) = some (if gdB col n n = true then 1 else 0, mH I J') ∧ ∀ i, i < n → J' 13 i = rtV col n i := by
  have v5 : ∀ J', zI (mH I J') 0 5 = nI n := fun _ => h5
  have j7 : ∀ i, i < n → ∀ J', zin (nI (10 * i + j0)) (zL (mH I J') 7) = true := fun i hi J' => min_ (mL_7 _ _) (by omega) (by omega)
  have y7 : ∀ i, i < n → zx (nI (10 * i + j0)) = 10 * i + j0 := fun i hi => zx_nI (by omega)
  have hbne : byV col n ≠ 0 := by
    unfold byV
    split
    · exact fun hh => hd (by grind)
    · exact hd
  refine ⟨zW J 13 (pre n (rtV col n) (J 13)), ?_, fun i hi => by rw [zW_e, pre_i _ _ hi]⟩
  unfold gX12_layRest_J8
  rw [zjn_]
  have hg := zlp_it (R := Option (Int32 × Zh)) (z := fun (_ : Int64) (_ : Int64) (_ : Int32) => (none : Option (Int32 × Zh))) (F := gX12_layRest_L7 0 (mH I J) (nI j0) (gX12_layRest_J5 0 (mH I J) (nI j0))) (fun i (F : Int64 → Int64 → Int32 → Option (Int32 × Zh)) => F (gdV col i) (fnV col i) (nI i)) (gX12_layRest_J5 0 (mH I J) (nI j0) (gdV col n) (fnV col n)) n ?_ ?_ zFU (by unfold zFU; omega)
  · refine hg.trans ?_
    unfold gX12_layRest_J5
    rw [zjn_]
    have hJ4 : gX12_layRest_J4 0 (mH I J) (nI j0) (byV col n) = some (if gdB col n n = true then 1 else 0, mH I (zW J 13 (pre n (rtV col n) (J 13)))) := by
      unfold gX12_layRest_J4
      have hh := zlp_it (R := Option (Int32 × Zh)) (z := fun (_ : Int32) (_ : Int32) (_ : Zh) => (none : Option (Int32 × Zh))) (F := gX12_layRest_L3 0 (nI j0) (byV col n)) (fun i (F : Int32 → Int32 → Zh → Option (Int32 × Zh)) => F (if gdB col n i = true then 1 else 0) (nI i) (mH I (zW J 13 (pre i (rtV col n) (J 13))))) (some (if gdB col n n = true then 1 else 0, mH I (zW J 13 (pre n (rtV col n) (J 13))))) n ?_ ?_ zFU (by unfold zFU; omega)
      · rw [pre_0, zW_self] at hh
        exact hh
      · intro i hi rr
        show gX12_layRest_L3 0 (nI j0) (byV col n) rr (if gdB col n i = true then 1 else 0) (nI i) (mH I (zW J 13 (pre i (rtV col n) (J 13)))) = rr (if gdB col n (i + 1) = true then 1 else 0) (nI (i + 1)) (mH I (zW J 13 (pre (i + 1) (rtV col n) (J 13))))
        have q7 : ∀ R', zJ (mH I (zW J 13 R')) 7 (10 * i + j0) = col i := fun _ => hM i hi
        have q13 : zJ (mH I (zW J 13 (pre (i + 1) (rtV col n) (J 13)))) 13 i = rtV col n i := pre_i _ _ (by omega)
        have hps : updJ (pre i (rtV col n) (J 13)) i (col i / byV col n) = pre (i + 1) (rtV col n) (J 13) := pre_s (rtV col n) (J 13) i
        have j13 : ∀ J', zin (nI i) (zL (mH I J') 13) = true := fun J' => min_ (mL_13 _ _) (show i < 10 by omega) (by omega)
        have yi : zx (nI i) = i := zx_nI (by omega)
        unfold gX12_layRest_L3
        rw [v5, if_neg (zge_n hi (by omega)), zlt_, mR_18, zlt_, mR_12, zob_s, e10l, j7 i hi, zg_1, if_neg hbne, zob_s, j13, zg_1, zlt_, yi, y7 i hi, q7, msJ, zW_J, hps, zjn_, zjn_, gdB_s]
        unfold gX12_layRest_J2 gX12_layRest_J1
        cases hc : gdB col n i with
        | false =>
          rw [if_neg (show ¬ false = true by decide), if_pos (show (0 : Int32) = 0 from rfl), ← nI_sc]; rfl
        | true =>
          rw [if_pos rfl, if_neg (show ¬ (1 : Int32) = 0 by decide), zlt_, mR_18, zob_s, j13, zg_1, q13, abs_okM, zbj_s]
          by_cases h1 : absJ (rtV col n i) ≤ 1000000
          · rw [if_neg (fun hh => by
              have := (lg_cmp_gt _ _).mp hh
              exact absurd h1 (Int64.not_le.mpr this)), decide_eq_true h1, ← nI_sc]; rfl
          · rw [if_pos ((lg_cmp_gt _ _).mpr (Int64.not_le.mp h1)), decide_eq_false h1, ← nI_sc]; rfl
      · intro rr
        show gX12_layRest_L3 0 (nI j0) (byV col n) rr _ (nI n) _ = _
        have zbf : zbl (if gdB col n n = true then 1 else 0) = true := by cases gdB col n n <;> decide
        unfold gX12_layRest_L3
        rw [v5, if_pos (Int32.le_refl _), zbf, zg_1]
    by_cases h1 : fnV col n < 0
    · have e : byV col n = -gdV col n := if_pos h1
      rw [if_neg (fun hh => by
        have := (lg_cmp_ge _ _).mp hh
        exact absurd h1 (Int64.not_lt.mpr this)), ← e]
      exact hJ4
    · have e : byV col n = gdV col n := if_neg h1
      rw [if_pos ((lg_cmp_ge _ _).mpr (Int64.not_lt.mp h1)), ← e]
      exact hJ4
  · intro i hi rr
    show gX12_layRest_L7 0 (mH I J) (nI j0) (gX12_layRest_J5 0 (mH I J) (nI j0)) rr (gdV col i) (fnV col i) (nI i) = rr (cmV (gdV col i) (col i)) (if fnV col i = 0 then col i else fnV col i) (nI (i + 1))
    have q7 : zJ (mH I J) 7 (10 * i + j0) = col i := hM i hi
    unfold gX12_layRest_L7
    rw [v5, if_neg (zge_n hi (by omega)), zlt_, mR_12, zob_s, e10l, j7 i hi, zg_1, y7 i hi, q7, comM, zbj_s, zjn_]
    unfold gX12_layRest_J6
    by_cases h1 : fnV col i = 0
    · rw [if_pos ((cmp0 _).mpr h1), if_pos h1, zlt_, zob_s, j7 i hi, zg_1, q7, ← nI_sc]
    · rw [if_neg (fun hh => h1 ((cmp0 _).mp hh)), if_neg h1, ← nI_sc]
  · intro rr
    show gX12_layRest_L7 0 (mH I J) (nI j0) (gX12_layRest_J5 0 (mH I J) (nI j0)) rr _ _ (nI n) = _
    unfold gX12_layRest_L7
    rw [v5, if_pos (Int32.le_refl _)]
/-- all of it, where the sector is laid -/
theorem restM (h5 : I 0 5 = nI n) (hn : n ≤ 10) (J : Nat → Nat → Int64) (hT : ∀ i j, i < n → j < n → J 5 (10 * i + j) = T i j) (hp : flOk T n p) (hsf : sfOk n p) (htr : trOk T n p) {x3 : Int32} (hx : x3.toInt.natAbs ≤ 50) : ∃ J', (if zI (mH I J) 0 5 = 0 then some ((0 : Int32), mH I J) else zbV (gX12_shiftTo (mH I J) 0 x3) (fun h2 => zbi (gX12_zeros h2 0) (fun x23 => (if (x23 : Int32) = 1 then zbV (gX12_layAdjoint h2 0 x3) (fun h3 => zjn (gX12_layRest_J8 0 h3) (fun (k54 : Int32 → Option (Int32 × Zh)) => zlp (fun (_ : Int32) (_ : Int32) => (none : Option (Int32 × Zh))) (gX12_layRest_L14 0 h3 k54) zFU 0 0)) else (some (0, h2)))))) = some (if rsB T n p x3.toInt = true then 1 else 0, mH I J') ∧ (rsB T n p x3.toInt = true → ∀ i, i < n → J' 13 i = rsR T n p x3.toInt i) := by
  have v5 : ∀ J', zI (mH I J') 0 5 = nI n := fun _ => h5
  have hb := shF_b hx hp.1 hsf
  have htop : shF x3.toInt n p 0 ≠ 0 := by
    show rZ _ _ (fun m' => (p m').toInt) _ 0 ≠ 0
    rw [rZ_top, hp.1]; decide
  rw [v5]
  by_cases hn0 : n = 0
  · have hf : rsB T n p x3.toInt = false := by
      unfold rsB
      rw [hn0]; rfl
    rw [if_pos (show nI n = 0 by rw [hn0]; rfl)]
    exact ⟨J, by rw [hf]; rfl, fun hh => by rw [hf] at hh; cases hh⟩
  · rw [if_neg (show ¬ nI n = 0 from nI_ne0 (by omega) (by omega))]
    obtain ⟨J1, t1, t2, t3⟩ := shiftTo_ok h5 hn J hT hp hsf hx
    have hz := zeros_ok (I := I) hn t2 (hb.1 _ (Nat.le_refl _)) htop
    rw [t1, zbV_s, hz, zbi_s]
    by_cases h1 : zrN (shF x3.toInt n p) n n 0 = 1
    · obtain ⟨n0, nz⟩ := zr_1 h1 htop
      have hne := col_ne (T := T) (p := p) (c := x3.toInt) hp.1 htr n0 (fun hh => nz (by
        have := sF_b62 (hb.1 _ (Nat.le_refl _) (n - 1) (by omega))
        have h2 : (oI (shF x3.toInt n p (n - 1))).toInt = (0 : Int64).toInt := congrArg Int64.toInt hh
        rw [show (0 : Int64).toInt = 0 from rfl] at h2
        exact this.symm.trans h2))
      obtain ⟨J2, a1, a2⟩ := adjoint_ok (T := T) h5 hn n0 J1 (fun i j hi hj => by rw [t3 5 (by omega)]; exact hT i j hi hj) hp.1 t2
      have hany : ∃ j, j < n ∧ anyC (rsM T n p x3.toInt) n j = true := by
        obtain ⟨j, b1, b2⟩ := hne
        exact ⟨j, b1, anyC_t.mpr ⟨j, b1, b2⟩⟩
      have hcol := column_ok h5 hn J2 a2 hany (gX12_layRest_J8 0 (mH I J2))
      obtain ⟨⟨-, f2, f3⟩, -⟩ := fstJ_ok (anyC (rsM T n p x3.toInt) n) n 0 (by
        obtain ⟨j, b1, b2⟩ := hany
        exact ⟨j, by omega, by omega, b2⟩)
      have hd0 : gdV (rsC T n p x3.toInt) n ≠ 0 := fun hh => by
        obtain ⟨i, b1, b2⟩ := anyC_t.mp f3
        exact b2 ((gdV_0 _ n).mp hh i b1)
      obtain ⟨J3, r1, r2⟩ := reduceM h5 hn J2 (j0 := fstJ (anyC (rsM T n p x3.toInt) n) n 0) (by omega) (col := rsC T n p x3.toInt) (fun i hi => a2 i (fstJ (anyC (rsM T n p x3.toInt) n) n 0) hi (by omega)) hd0
      have hrb : rsB T n p x3.toInt = gdB (rsC T n p x3.toInt) n n := by
        unfold rsB
        rw [decide_eq_true h1]; rfl
      rw [if_pos (show nI (zrN (shF x3.toInt n p) n n 0) = 1 by rw [h1]; rfl), a1, zbV_s, zjn_, hcol, r1, hrb]
      exact ⟨J3, rfl, fun _ i hi => r2 i hi⟩
    · have hf : rsB T n p x3.toInt = false := by
        unfold rsB
        rw [decide_eq_false h1]; rfl
      have hle : ∀ u k, zrN (shF x3.toInt n p) n u k ≤ k + u := by
        intro u
        induction u with
        | zero => intro k; exact Nat.le_refl _
        | succ u ih =>
          intro k
          show (if shF x3.toInt n p (n - k) = 0 then zrN (shF x3.toInt n p) n u (k + 1) else k) ≤ _
          split
          · have := ih (k + 1); omega
          · omega
      have hzl := hle n 0
      rw [if_neg (show ¬ nI (zrN (shF x3.toInt n p) n n 0) = 1 from fun hh => h1 ((nI_inj (b := 1) (by omega) (by omega)).mp hh))]
      exact ⟨J1, by rw [hf]; rfl, fun hh => by rw [hf] at hh; cases hh⟩
end Ref
