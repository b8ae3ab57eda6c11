/-! the class's rest: reduced, kept -/
section Cls
variable {h : Zh} {s n : Nat} {T : Nat → Nat → Int64} {p : Nat → Int64}
theorem gdB_s (col : Nat → Int64) (n z : Nat) : gdB col n (z + 1) = (gdB col n z && decide (absJ (rtV col n z) ≤ 1000000)) := by
  unfold gdB
  rw [List.range_succ, List.all_append]
  simp
theorem gdB_mono (col : Nat → Int64) (n : Nat) {z w : Nat} (hzw : z ≤ w) (h : gdB col n w = true) : gdB col n z = true := by
  unfold gdB at *
  rw [List.all_eq_true] at *
  exact fun x hx => h x (List.mem_range.mpr (Nat.lt_of_lt_of_le (List.mem_range.mp hx) hzw))
theorem zero_div (b : Int64) : (0 : Int64) / b = 0 := by
  rw [div_oI, show (0 : Int64).toInt = 0 from rfl, Int.zero_tdiv]; rfl
theorem reduce_ok (hs : seR h s) (hn : n ≤ 10) (h13 : zI h s 13 = nI n) (C X V P Q : Nat → Int64) {col : Nat → Int64} (hV : ∀ i, i < n → V i = col i) (hd : gdV col n ≠ 0) : ∃ V', gX5_reduceShares (s5 h s C X V P Q) s (gdV col n) = some (if gdB col n n = true then 1 else 0, s5 h s C X V' P Q) ∧ (gdB col n n = true → ∀ i, i < n → V' i = rtV col n i) := by
  obtain ⟨r5, l5⟩ : zR h s 5 = some (s + 6) ∧ zL h (s + 6) = 10 := hs 5 (by omega)
  have hnd : -gdV col n ≠ 0 := fun hh => hd (by grind)
  have zb0 : zbl 0 = true := by decide
  have zb1 : zbl 1 = true := by decide
  generalize hdv : gdV col n = dv at *
  let bi : Nat → Int64 := fun i => if fnV col i = 0 then 0 else if fnV col i < 0 then -dv else dv
  have hby : ∀ i, i ≤ n → fnV col i ≠ 0 → (if fnV col i < 0 then -dv else dv) = byV col n := fun i hi h1 => by
    have h2 := fnV_st col h1 (n - i)
    rw [show i + (n - i) = n by omega] at h2
    unfold byV
    rw [h2, hdv]
  have hbne : ∀ i, i ≤ n → fnV col i ≠ 0 → byV col n ≠ 0 := fun i hi h1 => by
    rw [← hby i hi h1]
    split
    · exact hnd
    · exact hd
  have key : ∀ (u i fu : Nat), i + u = n → u < fu → gdB col n i = true → ∃ V', zlp (fun (_ : Int32) (_ : Int64) (_ : Int32) (_ : Zh) => (none : Option (Int32 × Zh))) (gX5_reduceShares_L5 s dv) fu 1 (bi i) (nI i) (s5 h s C X (pre i (rtV col n) V) P Q) = some (if gdB col n n = true then 1 else 0, s5 h s C X V' P Q) ∧ (gdB col n n = true → ∀ y, y < n → V' y = rtV col n y) := by
    intro u
    induction u with
    | zero =>
      intro i fu hi hfu hg
      obtain ⟨fu, rfl⟩ : ∃ f, fu = f + 1 := ⟨fu - 1, by omega⟩
      have : i = n := by omega
      subst this
      refine ⟨pre i (rtV col i) V, ?_, fun _ y hy => pre_i _ _ hy⟩
      show gX5_reduceShares_L5 s dv _ 1 (bi i) (nI i) _ = _
      unfold gX5_reduceShares_L5
      rw [s5_I, h13, if_pos (Int32.le_refl _), zb1, zg_1, if_pos hg]
    | succ u ih =>
      intro i fu hi hfu hg
      obtain ⟨fu, rfl⟩ : ∃ f, fu = f + 1 := ⟨fu - 1, by omega⟩
      have hlt : i < n := by omega
      have ji : zin (nI i) 10 = true := zin_nI (by omega) (by omega)
      have yi : zx (nI i) = i := zx_nI (by omega)
      have vi : pre i (rtV col n) V i = col i := by
        unfold pre
        rw [if_neg (Nat.lt_irrefl i), hV i hlt]
      have hps := pre_s (rtV col n) V i
      have hfn : fnV col (i + 1) = if fnV col i = 0 then col i else fnV col i := rfl
      show ∃ V', gX5_reduceShares_L5 s dv (zlp (fun (_ : Int32) (_ : Int64) (_ : Int32) (_ : Zh) => (none : Option (Int32 × Zh))) (gX5_reduceShares_L5 s dv) fu) 1 (bi i) (nI i) (s5 h s C X (pre i (rtV col n) V) P Q) = _ ∧ _
      have hstep : ∀ Z : Int32 → Int64 → Int32 → Zh → Option (Int32 × Zh), gX5_reduceShares_L5 s dv Z 1 (bi i) (nI i) (s5 h s C X (pre i (rtV col n) V) P Q) = Z (if absJ (rtV col n i) ≤ 1000000 then 1 else 0) (bi (i + 1)) (nI (i + 1)) (s5 h s C X (pre (i + 1) (rtV col n) V) P Q) := by
        intro Z
        have vi1 : pre (i + 1) (rtV col n) V i = rtV col n i := pre_i _ _ (by omega)
        have hJ2 : ∀ b, gX5_reduceShares_J2 s (nI i) Z b (s5 h s C X (pre (i + 1) (rtV col n) V) P Q) = Z (if absJ (rtV col n i) ≤ 1000000 then 1 else 0) b (nI (i + 1)) (s5 h s C X (pre (i + 1) (rtV col n) V) P Q) := fun b => by
          unfold gX5_reduceShares_J2
          rw [zlt_, s5_R, r5, zob_s, s5_L, l5, ji, zg_1, yi, s5_6, vi1, abs_okC, zbj_s, zjn_]
          unfold gX5_reduceShares_J1
          by_cases h1 : absJ (rtV col n i) ≤ 1000000
          · rw [if_neg (fun hh => by
              have := (lg_cmp_gt _ _).mp hh
              exact absurd h1 (Int64.not_le.mpr this)), if_pos h1, ← nI_sc]
          · rw [if_pos ((lg_cmp_gt _ _).mpr (Int64.not_le.mp h1)), if_neg h1, ← nI_sc]
        have hJ3 : fnV col (i + 1) ≠ 0 → gX5_reduceShares_J3 s (nI i) (s5 h s C X (pre i (rtV col n) V) P Q) Z (byV col n) = Z (if absJ (rtV col n i) ≤ 1000000 then 1 else 0) (bi (i + 1)) (nI (i + 1)) (s5 h s C X (pre (i + 1) (rtV col n) V) P Q) := fun h1 => by
          have h2 := hbne (i + 1) (by omega) h1
          have hb1 : bi (i + 1) = byV col n := (if_neg h1).trans (hby (i + 1) (by omega) h1)
          have hu : updJ (pre i (rtV col n) V) i (col i / byV col n) = pre (i + 1) (rtV col n) V := hps
          unfold gX5_reduceShares_J3
          rw [zjn_, if_neg (fun hh => h2 ((cmp0 _).mp hh)), zlt_, s5_R, r5, zob_s, s5_L, l5, ji, zg_1, if_neg h2, zg_1, zlt_, yi, s5_6, vi, s5_s6, hu, hJ2, hb1]
        unfold gX5_reduceShares_L5
        rw [s5_I, h13, if_neg (zge_n hlt (by omega)), if_neg (show ¬ (1 : Int32) = 0 by decide), zjn_]
        by_cases h1 : fnV col i = 0
        · have hb0 : bi i = 0 := if_pos h1
          rw [hb0, if_pos ((cmp0 _).mpr rfl), zlt_, s5_R, r5, zob_s, s5_L, l5, ji, zg_1, yi, s5_6, vi]
          rw [if_pos h1] at hfn
          by_cases h2 : col i = 0
          · have hb1 : bi (i + 1) = 0 := if_pos (hfn.trans h2)
            have hr0 : rtV col n i = 0 := by
              unfold rtV
              rw [h2, zero_div]
            have hpe : pre (i + 1) (rtV col n) V = pre i (rtV col n) V := by
              rw [← hps]
              funext y
              unfold updJ
              by_cases hy : y = i
              · rw [if_pos hy, hy, vi, hr0, h2]
              · rw [if_neg hy]
            rw [if_pos ((cmp0 _).mpr h2)]
            unfold gX5_reduceShares_J3
            rw [zjn_, if_pos ((cmp0 _).mpr rfl), hb1, ← hpe, hJ2]
          · have hne : fnV col (i + 1) ≠ 0 := by rw [hfn]; exact h2
            rw [if_neg (fun hh => h2 ((cmp0 _).mp hh)), zlt_, zob_s, s5_L, l5, ji, zg_1, zjn_, s5_6, vi]
            unfold gX5_reduceShares_J4
            have hb := hby (i + 1) (by omega) hne
            rw [hfn] at hb
            by_cases h3 : col i < 0
            · rw [if_pos h3] at hb
              rw [if_pos ((lg_cmp_le _ _).mpr (Int64.le_of_lt h3)), hb]
              exact hJ3 hne
            · rw [if_neg h3] at hb
              rw [if_neg (fun hh => by
                have h4 := (lg_cmp_le _ _).mp hh
                rw [Int64.le_iff_toInt_le] at h4
                rw [Int64.lt_iff_toInt_lt] at h3
                exact h2 (Int64.toInt_inj.mp (by omega))), hb]
              exact hJ3 hne
        · have hb : bi i = byV col n := (if_neg h1).trans (hby i (by omega) h1)
          have hne : fnV col (i + 1) ≠ 0 := by rw [hfn, if_neg h1]; exact h1
          rw [hb, if_neg (fun hh => hbne i (by omega) h1 ((cmp0 _).mp hh))]
          exact hJ3 hne
      rw [hstep]
      by_cases h1 : absJ (rtV col n i) ≤ 1000000
      · rw [if_pos h1]
        exact ih (i + 1) fu (by omega) (by omega) (by rw [gdB_s, hg, decide_eq_true h1]; rfl)
      · rw [if_neg h1]
        have hnot : ¬ gdB col n n = true := fun hh => by
          have h2 := gdB_mono col n (show i + 1 ≤ n by omega) hh
          rw [gdB_s, hg, decide_eq_false h1] at h2
          exact absurd h2 (by decide)
        refine ⟨pre (i + 1) (rtV col n) V, ?_, fun hh => absurd hh hnot⟩
        obtain ⟨fu, rfl⟩ : ∃ f, fu = f + 1 := ⟨fu - 1, by omega⟩
        show gX5_reduceShares_L5 s dv _ 0 (bi (i + 1)) (nI (i + 1)) _ = _
        unfold gX5_reduceShares_L5
        rw [if_neg hnot, if_pos (show (0 : Int32) = 0 from rfl), zb0, zg_1]
        by_cases h5 : zI (s5 h s C X (pre (i + 1) (rtV col n) V) P Q) s 13 ≤ nI (i + 1)
        · rw [if_pos h5]
        · rw [if_neg h5]
  obtain ⟨V', h1, h2⟩ := key n 0 zFU (by omega) (by unfold zFU; omega) rfl
  refine ⟨V', ?_, h2⟩
  rw [pre_0] at h1
  unfold gX5_reduceShares
  rw [zjn_, if_neg (fun hh => hd ((cmp0 _).mp hh))]
  exact h1
theorem findRest_ok (hs : seR h s) (hn : n ≤ 10) (hn1 : 0 < n) (h13 : zI h s 13 = nI n) (hT : ∀ i j, i < n → j < n → zJ h (s + 3) (10 * i + j) = T i j) (C X V P Q : Nat → Int64) (hC : ∀ k, k ≤ n → C k = p (n - k)) (h0 : p 0 = 1) (x1 : Int32) (hne : ∃ j, j < n ∧ rsM T n p x1.toInt j j ≠ 0) : ∃ V' P' Q', gX5_findRest (s5 h s C X V P Q) s x1 = some (if gdB (rsC T n p x1.toInt) n n = true then 1 else 0, s5 h s C X V' P' Q') ∧ (gdB (rsC T n p x1.toInt) n n = true → ∀ i, i < n → V' i = rsR T n p x1.toInt i) := by
  obtain ⟨r3, l3⟩ : zR h s 3 = some (s + 4) ∧ zL h (s + 4) = 11 := hs 3 (by omega)
  obtain ⟨r6, l6⟩ : zR h s 6 = some (s + 7) ∧ zL h (s + 7) = 11 := hs 6 (by omega)
  have e1 : nI n - 1 = nI (n - 1) := by
    have h1 := nI_pred (n - 1)
    rw [show n - 1 + 1 = n by omega] at h1
    exact h1
  have jn : zin (nI (n - 1)) 11 = true := zin_nI (by omega) (by omega)
  have yn : zx (nI (n - 1)) = n - 1 := zx_nI (by omega)
  let Pt : Nat → Nat → Int64 := fun t y => if y < n ∧ n ≤ y + 1 + t then rsS x1.toInt p (n - 1 - y) else P y
  have hP0 : updJ P (n - 1) 1 = Pt 0 := by
    funext y
    show (if y = n - 1 then 1 else P y) = if y < n ∧ n ≤ y + 1 + 0 then rsS x1.toInt p (n - 1 - y) else P y
    by_cases h1 : y = n - 1
    · rw [if_pos h1, if_pos (by omega), show n - 1 - y = 0 by omega, rsS_0 _ h0]
    · rw [if_neg h1, if_neg (by omega)]
  unfold gX5_findRest
  rw [zlt_, s5_R, r6, zob_s, s5_I, h13, e1, s5_L, l6, jn, zg_1, zlt_, yn, s5_s7, hP0, zlt_, s5_I, h13, e1, zjn_]
  have hspare : ∀ K : Zh → Option (Int32 × Zh), zlp (fun (_ : Int32) (_ : Zh) => (none : Option (Int32 × Zh))) (gX5_findRest_L7 s x1 K) zFU (nI (n - 1)) (s5 h s C X V (Pt 0) Q) = K (s5 h s C X V (Pt (n - 1)) Q) := by
    intro K
    have hh := zlp_it (R := Option (Int32 × Zh)) (z := fun (_ : Int32) (_ : Zh) => (none : Option (Int32 × Zh))) (F := gX5_findRest_L7 s x1 K) (fun t (F : Int32 → Zh → Option (Int32 × Zh)) => F (nI (n - 1 - t)) (s5 h s C X V (Pt t) Q)) (K (s5 h s C X V (Pt (n - 1)) Q)) (n - 1) ?_ ?_ zFU (by unfold zFU; omega)
    · exact hh
    · intro t ht rr
      obtain ⟨k, hk⟩ : ∃ k, k = n - 1 - (t + 1) := ⟨_, rfl⟩
      have ek : n - 1 - t = k + 1 := by omega
      have ek2 : n - 1 - (t + 1) = k := by omega
      show gX5_findRest_L7 s x1 K rr (nI (n - 1 - t)) (s5 h s C X V (Pt t) Q) = rr (nI (n - 1 - (t + 1))) (s5 h s C X V (Pt (t + 1)) Q)
      rw [ek, ek2]
      have j1 : zin (nI (k + 1)) 11 = true := zin_nI (by omega) (by omega)
      have j2 : zin (nI k) 11 = true := zin_nI (by omega) (by omega)
      have y1 : zx (nI (k + 1)) = k + 1 := zx_nI (by omega)
      have y2 : zx (nI k) = k := zx_nI (by omega)
      have ed : nI (k + 1) - 1 = nI k := nI_pred k
      have vC : C (k + 1) = p (t + 1) := by rw [hC _ (by omega), show n - (k + 1) = t + 1 by omega]
      have vP : Pt t (k + 1) = rsS x1.toInt p t := by
        show (if k + 1 < n ∧ n ≤ k + 1 + 1 + t then rsS x1.toInt p (n - 1 - (k + 1)) else P (k + 1)) = _
        rw [if_pos (by omega), show n - 1 - (k + 1) = t by omega]
      have hu : updJ (Pt t) k (p (t + 1) + x1.toInt64 * rsS x1.toInt p t) = Pt (t + 1) := by
        funext y
        show (if y = k then p (t + 1) + x1.toInt64 * rsS x1.toInt p t else (if y < n ∧ n ≤ y + 1 + t then rsS x1.toInt p (n - 1 - y) else P y)) = if y < n ∧ n ≤ y + 1 + (t + 1) then rsS x1.toInt p (n - 1 - y) else P y
        by_cases h1 : y = k
        · rw [if_pos h1, if_pos (by omega), show n - 1 - y = t + 1 by omega, rsS_s, oI_c]
        · rw [if_neg h1]
          by_cases h2 : y < n ∧ n ≤ y + 1 + t
          · rw [if_pos h2, if_pos (by omega)]
          · rw [if_neg h2, if_neg (by omega)]
      unfold gX5_findRest_L7
      rw [if_neg (show ¬ nI (k + 1) ≤ 0 from nI_nle (by omega) (by omega))]
      repeat (first | rw [s5_R] | rw [r3] | rw [r6] | rw [s5_L] | rw [l3] | rw [l6] | rw [j1] | rw [ed] | rw [j2] | rw [y1] | rw [y2] | rw [s5_4] | rw [s5_7] | rw [vC] | rw [vP] | rw [s5_s7] | rw [hu] | rw [zlt_] | rw [zjn_] | rw [zob_s] | rw [zg_1] | rw [zbi_s] | rw [zbI_s] | rw [zbr_s] | rw [zbR_s] | rw [zbV_s] | rw [zbj_s] | rw [zbJ_s] | rw [zcs_s] | rw [zcs_n])
      rw [show nI (k + 1) + (-1) = nI k by rw [← ed]; grind]
    · intro rr
      show gX5_findRest_L7 s x1 K rr (nI (n - 1 - (n - 1))) _ = _
      rw [Nat.sub_self]
      unfold gX5_findRest_L7
      rw [if_pos (show nI 0 ≤ 0 from Int32.le_refl _)]
  rw [hspare]
  have hPn : ∀ m, m < n → Pt (n - 1) (n - 1 - m) = rsS x1.toInt p m := fun m hm => by
    show (if n - 1 - m < n ∧ n ≤ n - 1 - m + 1 + (n - 1) then rsS x1.toInt p (n - 1 - (n - 1 - m)) else P (n - 1 - m)) = _
    rw [if_pos (by omega), show n - 1 - (n - 1 - m) = m by omega]
  generalize Pt (n - 1) = P1 at *
  unfold gX5_findRest_J6
  rw [zjn_]
  have hfs := (fstJ_ok (anyC (rsM T n p x1.toInt) n) n 0 (by
    obtain ⟨j, a1, a2⟩ := hne
    exact ⟨j, by omega, by omega, anyC_t.mpr ⟨j, a1, a2⟩⟩))
  have hcol : rsC T n p x1.toInt = fun i => rsM T n p x1.toInt i (fstJ (anyC (rsM T n p x1.toInt) n) n 0) := rfl
  unfold rsR
  rw [hcol]
  generalize fstJ (anyC (rsM T n p x1.toInt) n) n 0 = j0 at *
  obtain ⟨⟨-, f2, f3⟩, f4⟩ := hfs
  have hj0 : j0 < n := by omega
  have hd0 : gdV (fun i => rsM T n p x1.toInt i j0) n ≠ 0 := fun hh => by
    obtain ⟨i, a1, a2⟩ := anyC_t.mp f3
    exact a2 ((gdV_0 _ n).mp hh i a1)
  have happ : ∀ j, j < n → ∀ V Q, ∃ V1 Q1, gX5_applyToUnit (s5 h s C X V P1 Q) s (nI j) = some (s5 h s C X V1 P1 Q1) ∧ ∀ i, i < n → V1 i = rsM T n p x1.toInt i j := fun j hj V Q => by
    obtain ⟨Q', g1⟩ := applyTo_ok hs hn h13 hT C X V P1 Q hPn hj
    exact ⟨_, Q', g1, fun i hi => pre_i _ _ hi⟩
  have key : ∀ (u j : Nat) (V Q : Nat → Int64) (fu : Nat), j + u = j0 → u + 1 < fu → ∃ V1 Q1, zlp (fun (_ : Int64) (_ : Int32) (_ : Zh) => (none : Option (Int32 × Zh))) (gX5_findRest_L5 s (gX5_findRest_J2 s)) fu 0 (nI j) (s5 h s C X V P1 Q) = gX5_findRest_J2 s (gdV (fun i => rsM T n p x1.toInt i j0) n) (s5 h s C X V1 P1 Q1) ∧ ∀ i, i < n → V1 i = rsM T n p x1.toInt i j0 := by
    intro u
    induction u with
    | zero =>
      intro j V Q fu hj hfu
      obtain ⟨fu, rfl⟩ : ∃ f, fu = f + 1 + 1 := ⟨fu - 2, by omega⟩
      have : j = j0 := by omega
      subst this
      obtain ⟨V1, Q1, g1, g2⟩ := happ j hj0 V Q
      refine ⟨V1, Q1, ?_, g2⟩
      show gX5_findRest_L5 s (gX5_findRest_J2 s) (zlp (fun (_ : Int64) (_ : Int32) (_ : Zh) => (none : Option (Int32 × Zh))) (gX5_findRest_L5 s (gX5_findRest_J2 s)) (fu + 1)) 0 (nI j) (s5 h s C X V P1 Q) = _
      have hz : ∀ g', zlp (fun (_ : Int64) (_ : Int32) (_ : Zh) => (none : Option (Int32 × Zh))) (gX5_findRest_L5 s (gX5_findRest_J2 s)) (fu + 1) (gdV (fun i => rsM T n p x1.toInt i j) n) (nI (j + 1)) g' = gX5_findRest_J2 s (gdV (fun i => rsM T n p x1.toInt i j) n) g' := fun g' => by
        show gX5_findRest_L5 s (gX5_findRest_J2 s) _ (gdV (fun i => rsM T n p x1.toInt i j) n) (nI (j + 1)) g' = _
        unfold gX5_findRest_L5
        by_cases h5 : zI g' s 13 ≤ nI (j + 1)
        · rw [if_pos h5]
        · rw [if_neg h5, if_neg (fun hh => hd0 ((cmp0 _).mp hh))]
      generalize zlp (fun (_ : Int64) (_ : Int32) (_ : Zh) => (none : Option (Int32 × Zh))) (gX5_findRest_L5 s (gX5_findRest_J2 s)) (fu + 1) = Z at *
      unfold gX5_findRest_L5
      rw [s5_I, h13, if_neg (zge_n hj0 (by omega)), if_pos ((cmp0 _).mpr rfl), g1, zbV_s, zjn_, gcdL_ok hs hn h13 C X V1 P1 Q1 g2]
      unfold gX5_findRest_J3
      rw [← nI_sc, hz]
    | succ u ih =>
      intro j V Q fu hj hfu
      obtain ⟨fu, rfl⟩ : ∃ f, fu = f + 1 := ⟨fu - 1, by omega⟩
      obtain ⟨V1, Q1, g1, g2⟩ := happ j (by omega) V Q
      have hz : gdV (fun i => rsM T n p x1.toInt i j) n = 0 := (gdV_0 _ n).mpr (fun i hi => by
        have h5 := f4 j (by omega) (by omega)
        apply Classical.byContradiction
        intro h6
        have h7 := anyC_t.mpr ⟨i, hi, h6⟩
        rw [h5] at h7
        cases h7)
      obtain ⟨V', Q', r1, r2⟩ := ih (j + 1) V1 Q1 fu (by omega) (by omega)
      refine ⟨V', Q', ?_, r2⟩
      rw [← r1]
      show gX5_findRest_L5 s (gX5_findRest_J2 s) (zlp (fun (_ : Int64) (_ : Int32) (_ : Zh) => (none : Option (Int32 × Zh))) (gX5_findRest_L5 s (gX5_findRest_J2 s)) fu) 0 (nI j) (s5 h s C X V P1 Q) = _
      generalize zlp (fun (_ : Int64) (_ : Int32) (_ : Zh) => (none : Option (Int32 × Zh))) (gX5_findRest_L5 s (gX5_findRest_J2 s)) fu = Z
      unfold gX5_findRest_L5
      rw [s5_I, h13, if_neg (zge_n (show j < n by omega) (by omega)), if_pos ((cmp0 _).mpr rfl), g1, zbV_s, zjn_, gcdL_ok hs hn h13 C X V1 P1 Q1 g2]
      unfold gX5_findRest_J3
      rw [← nI_sc, hz]
  obtain ⟨V1, Q1, r1, r2⟩ := key j0 0 V Q zFU (by omega) (by unfold zFU; omega)
  obtain ⟨V', t1, t2⟩ := reduce_ok hs hn h13 C X V1 P1 Q1 (col := fun i => rsM T n p x1.toInt i j0) r2 hd0
  refine ⟨V', P1, Q1, r1.trans ?_, t2⟩
  unfold gX5_findRest_J2 gX5_findRest_J1
  rw [zjn_, if_neg (fun hh => hd0 ((cmp0 _).mp hh)), t1, zbI_s]
  by_cases h5 : gdB (fun i => rsM T n p x1.toInt i j0) n n = true
  · rw [if_pos h5, if_neg (show ¬ (1 : Int32) = 0 by decide)]
  · rw [if_neg h5, if_pos (show (0 : Int32) = 0 from rfl)]
end Cls
/-- what is kept of a rest -/
noncomputable abbrev reB (ch : Ch) (m g : Nat) (c : Int) : Bool := rsB (seT ch m g) (seN ch m g) (seP ch m g) c
noncomputable abbrev reR (ch : Ch) (m g : Nat) (c : Int) : Nat → Int64 := rsR (seT ch m g) (seN ch m g) (seP ch m g) c
def QRc : Qs := fun ch m g I J => I 0 14 = 1 ∧ (I 0 16 = if reB ch m g (I 0 17).toInt = true then 1 else 0) ∧ (reB ch m g (I 0 17).toInt = true → ∀ i, i < seN ch m g → J 6 i = reR ch m g (I 0 17).toInt i)
theorem QRc_ok : qrOk QRc := fun ch m g I J I' J' q => ⟨q.1, fun e14 e16 e17 e6 => by
  obtain ⟨q1, q2, q3⟩ := q
  refine ⟨e14.trans q1, ?_, ?_⟩
  · rw [e16, e17]; exact q2
  · rw [e17]
    exact fun hb i hi => (e6 i).trans (q3 hb i hi)⟩
section Ops
variable {h h' : Zh} {o : Nat → Nat} {ch : Ch} {s c m g : Nat}
theorem restsAt_no (k : seK QTc QRc ch m g (aI h s) (aJ h s)) (hn : 10 < seN ch m g) (h38 : seN ch m g ≤ 38) (x1 : Int32) : gX5_restsAt h s x1 = some (0, h) := by
  unfold gX5_restsAt
  rw [solve_no k hn h38, zbI_s, if_pos (show (0 : Int32) = 0 from rfl)]
theorem restsAt_ok (b : seB h o s c ch) (k : seK QTc QRc ch m g (aI h s) (aJ h s)) (hn : seN ch m g ≤ 10) (hch : tabOk (seT ch m g) (seN ch m g)) (htr : trOk (seT ch m g) (seN ch m g) (seP ch m g)) {x1 : Int32} (hx : x1.toInt.natAbs ≤ 50) : ∃ h', gX5_restsAt h s x1 = some (if reB ch m g x1.toInt = true then 1 else 0, h') ∧ scM s h h' ∧ seK QTc QRc ch m g (aI h' s) (aJ h' s) ∧ (reB ch m g x1.toInt = true → ∀ i, i < seN ch m g → zJ h' (s + 6) i = reR ch m g x1.toInt i) := by
  obtain ⟨h1, s1, s2, s3, s4⟩ := solve_ok QRc_ok b k hn
  have hsr : seR h1 s := b.2.2.1.mv s2
  have zb0 : zbl 0 = true := by decide
  have zb1 : zbl 1 = true := by decide
  unfold gX5_restsAt
  rw [s1, zbI_s, if_neg (show ¬ (1 : Int32) = 0 by decide), zjn_, zjn_]
  have hnew : ∃ h', gX5_restsAt_J4 s x1 h1 (gX5_restsAt_J1 s) = some (if reB ch m g x1.toInt = true then 1 else 0, h') ∧ scM s h h' ∧ seK QTc QRc ch m g (aI h' s) (aJ h' s) ∧ (reB ch m g x1.toInt = true → ∀ i, i < seN ch m g → zJ h' (s + 6) i = reR ch m g x1.toInt i) := by
    have hb := shF_b hx hch.1.1 hch.2.2
    generalize hg0 : zsI (zsI h1 s 15 1) s 17 x1 = g0
    have m0 : scM s h1 g0 := by rw [← hg0]; exact (scM.I _ _ _ _ (by omega)).tr (scM.I _ _ _ _ (by omega))
    have sr0 : seR g0 s := hsr.mv m0
    have i0 : ∀ a y, ¬ (a = s ∧ (y = 15 ∨ y = 17)) → zI g0 a y = zI h1 a y := fun a y hh => by
      rw [← hg0, zI_s, if_neg (fun e => hh ⟨e.1, Or.inr e.2⟩), zI_s, if_neg (fun e => hh ⟨e.1, Or.inl e.2⟩)]
    have i15 : zI g0 s 15 = 1 := by rw [← hg0, zI_s, if_neg (fun e => absurd e.2 (by decide)), zI_s, if_pos ⟨rfl, rfl⟩]
    have i17 : zI g0 s 17 = x1 := by rw [← hg0, zI_s, if_pos ⟨rfl, rfl⟩]
    have j0 : ∀ a y, zJ g0 a y = zJ h1 a y := fun a y => by rw [← hg0]; rfl
    have g13 : zI g0 s 13 = nI (seN ch m g) := (i0 s 13 (by omega)).trans (seK_13 s3)
    have hC : ∀ y, y ≤ seN ch m g → zJ g0 (s + 4) y = seP ch m g (seN ch m g - y) := fun y hy => (j0 _ _).trans (seK_C s3 s4 y hy)
    have hT : ∀ i j, i < seN ch m g → j < seN ch m g → zJ g0 (s + 3) (10 * i + j) = seT ch m g i j := fun i j hi hj => by
      rw [j0]
      have := (seK_T s3 s4).2.1 i j hi hj
      rwa [aJ_i _ _ _ _ (by omega)] at this
    have hroot := rootsAt_ok sr0 hn g13 (zJ g0 (s + 4)) (zJ g0 (s + 5)) (zJ g0 (s + 6)) (zJ g0 (s + 7)) (zJ g0 (s + 8)) hC x1 (hb.1 _ (Nat.le_refl _))
    rw [s5_self] at hroot
    generalize pre (seN ch m g + 1) (fun k => oI (shF x1.toInt (seN ch m g) (seP ch m g) (seN ch m g - k))) (zJ g0 (s + 5)) = XR at hroot
    have fin : ∀ (fl : Bool) (X' V' P' Q' : Nat → Int64), (fl = reB ch m g x1.toInt) → (fl = true → ∀ i, i < seN ch m g → V' i = reR ch m g x1.toInt i) → ∃ h', gX5_restsAt_J2 s (gX5_restsAt_J1 s) (if fl = true then 1 else 0) (s5 g0 s (zJ g0 (s + 4)) X' V' P' Q') = some (if reB ch m g x1.toInt = true then 1 else 0, h') ∧ scM s h h' ∧ seK QTc QRc ch m g (aI h' s) (aJ h' s) ∧ (reB ch m g x1.toInt = true → ∀ i, i < seN ch m g → zJ h' (s + 6) i = reR ch m g x1.toInt i) := by
      intro fl X' V' P' Q' e1 e2
      have zbf : zbl (if fl = true then 1 else 0) = true := by cases fl <;> decide
      unfold gX5_restsAt_J2 gX5_restsAt_J1
      rw [zbf, zg_1, zlt_]
      generalize hh2 : zsI (s5 g0 s (zJ g0 (s + 4)) X' V' P' Q') s 16 (if fl = true then 1 else 0) = h2
      have q16 : zI h2 s 16 = if fl = true then 1 else 0 := by rw [← hh2, zI_s, if_pos ⟨rfl, rfl⟩]
      have qI : ∀ a y, ¬ (a = s ∧ y = 16) → zI h2 a y = zI g0 a y := fun a y hh => by rw [← hh2, zI_s, if_neg hh]; rfl
      have qJ : ∀ a y, zJ h2 a y = zJ (s5 g0 s (zJ g0 (s + 4)) X' V' P' Q') a y := fun a y => by rw [← hh2]; rfl
      have q6 : ∀ y, zJ h2 (s + 6) y = V' y := fun y => (qJ _ _).trans (s5_6 _ _ _ _ _ _ _ _)
      rw [q16, zbf, zg_1]
      refine ⟨h2, by rw [e1], ?_, ?_, fun hb i hi => (q6 i).trans (e2 (by rw [e1]; exact hb) i hi)⟩
      · rw [← hh2]
        exact ((s2.tr m0).tr (s5_m _ _ _ _ _ _ _)).tr (scM.I _ _ _ _ (by omega))
      · obtain ⟨k1, k2, ⟨j1, j2, j3, j4⟩, k4, k5⟩ := s3
        have eA : ∀ y, y ≠ 15 → y ≠ 16 → y ≠ 17 → aI h2 s 0 y = aI h1 s 0 y := fun y n1 n2 n3 => by
          rw [aI_i _ _ _ _ (by omega), aI_i _ _ _ _ (by omega), qI _ _ (by omega), i0 _ _ (by omega)]
        have eB : ∀ y, aI h2 s 1 y = aI h1 s 1 y := fun y => by
          rw [aI_i _ _ _ _ (by omega), aI_i _ _ _ _ (by omega), qI _ _ (by omega), i0 _ _ (by omega)]
        have e14 : aI h2 s 0 14 = 1 := by rw [eA 14 (by decide) (by decide) (by decide), aI_i _ _ _ _ (by omega), Nat.add_zero]; exact s4
        have e15 : aI h2 s 0 15 = 1 := by rw [aI_i _ _ _ _ (by omega), Nat.add_zero, qI _ _ (by omega)]; exact i15
        have e17 : aI h2 s 0 17 = x1 := by rw [aI_i _ _ _ _ (by omega), Nat.add_zero, qI _ _ (by omega)]; exact i17
        have e16 : aI h2 s 0 16 = if fl = true then 1 else 0 := by rw [aI_i _ _ _ _ (by omega), Nat.add_zero]; exact q16
        refine ⟨k1, k2, ⟨(eA _ (by decide) (by decide) (by decide)).trans j1, (eA _ (by decide) (by decide) (by decide)).trans j2, (eA _ (by decide) (by decide) (by decide)).trans j3, fun i x hx => (eB _).trans (j4 i x hx)⟩, Or.inr ⟨e14, hn, fun i j hi hj => ?_, fun y hy => ?_⟩, Or.inr ⟨e15, e14, ?_, ?_⟩⟩
        · rw [aJ_i _ _ _ _ (by omega), qJ, s5_n _ _ _ _ _ _ _ _ _ (by omega)]
          exact hT i j hi hj
        · rw [aJ_i _ _ _ _ (by omega), qJ, s5_4]
          exact hC y hy
        · rw [e16, e17, e1]
        · rw [e17]
          intro hb i hi
          rw [aJ_i _ _ _ _ (by omega), q6]
          exact e2 (by rw [e1]; exact hb) i hi
    unfold gX5_restsAt_J4
    rw [zlt_, zlt_, hg0, hroot, zbI_s, zjn_, zjn_]
    by_cases hz : zrN (shF x1.toInt (seN ch m g) (seP ch m g)) (seN ch m g) (seN ch m g) 0 = 1
    · have hzt : shF x1.toInt (seN ch m g) (seP ch m g) 0 ≠ 0 := by
        show rZ _ _ (fun m' => (seP ch m g m').toInt) _ 0 ≠ 0
        rw [rZ_top, show seP ch m g 0 = 1 from hch.1.1]; decide
      obtain ⟨n0, nz⟩ := zr_1 hz hzt
      have hne := col_ne (T := seT ch m g) (p := seP ch m g) (c := x1.toInt) hch.1.1 htr n0 (fun hh => nz (by
        have := sF_b62 (hb.1 _ (Nat.le_refl _) (seN ch m g - 1) (by omega))
        have h2 : (oI (shF x1.toInt (seN ch m g) (seP ch m g) (seN ch m g - 1))).toInt = (0 : Int64).toInt := congrArg Int64.toInt hh
        rw [show (0 : Int64).toInt = 0 from rfl] at h2
        exact this.symm.trans h2))
      obtain ⟨V', P', Q', t1, t2⟩ := findRest_ok sr0 hn n0 g13 hT (zJ g0 (s + 4)) XR (zJ g0 (s + 6)) (zJ g0 (s + 7)) (zJ g0 (s + 8)) hC hch.1.1 x1 hne
      have hrb : reB ch m g x1.toInt = gdB (rsC (seT ch m g) (seN ch m g) (seP ch m g) x1.toInt) (seN ch m g) (seN ch m g) := by
        show rsB _ _ _ _ = _
        unfold rsB
        rw [decide_eq_true hz]; rfl
      have hf := fin (gdB (rsC (seT ch m g) (seN ch m g) (seP ch m g) x1.toInt) (seN ch m g) (seN ch m g)) XR V' P' Q' hrb.symm t2
      rw [if_pos (show nI (zrN (shF x1.toInt (seN ch m g) (seP ch m g)) (seN ch m g) (seN ch m g) 0) = 1 by rw [hz]; rfl), t1, zbI_s]
      by_cases h5 : gdB (rsC (seT ch m g) (seN ch m g) (seP ch m g) x1.toInt) (seN ch m g) (seN ch m g) = true
      · rw [if_pos h5] at hf ⊢
        rw [if_neg (show ¬ (1 : Int32) = 0 by decide)]
        exact hf
      · rw [if_neg h5] at hf ⊢
        rw [if_pos (show (0 : Int32) = 0 from rfl)]
        exact hf
    · have hrb : reB ch m g x1.toInt = false := by
        show rsB _ _ _ _ = _
        unfold rsB
        rw [decide_eq_false hz]; rfl
      have hzl : zrN (shF x1.toInt (seN ch m g) (seP ch m g)) (seN ch m g) (seN ch m g) 0 < 2 ^ 31 := by
        have hle : ∀ u k, zrN (shF x1.toInt (seN ch m g) (seP ch m g)) (seN ch m g) u k ≤ k + u := by
          intro u
          induction u with
          | zero => intro k; exact Nat.le_refl _
          | succ u ih =>
            intro k
            show (if shF x1.toInt (seN ch m g) (seP ch m g) (seN ch m g - k) = 0 then zrN (shF x1.toInt (seN ch m g) (seP ch m g)) (seN ch m g) u (k + 1) else k) ≤ _
            split
            · have := ih (k + 1); omega
            · omega
        have := hle (seN ch m g) 0
        omega
      rw [if_neg (show ¬ nI (zrN (shF x1.toInt (seN ch m g) (seP ch m g)) (seN ch m g) (seN ch m g) 0) = 1 from fun hh => hz ((nI_inj (b := 1) hzl (by omega)).mp hh))]
      exact fin false _ _ _ _ hrb.symm (fun hh => by cases hh)
  by_cases e1 : zI h1 s 15 = 0
  · rw [if_pos e1]; exact hnew
  · rw [if_neg e1]
    by_cases e2 : zI h1 s 17 = x1
    · rw [if_pos e2]
      have hq : QRc ch m g (aI h1 s) (aJ h1 s) := by
        rcases s3.2.2.2.2 with q | q
        · rw [aI_i _ _ _ _ (by omega), Nat.add_zero] at q
          exact absurd q e1
        · exact q.2
      obtain ⟨q1, q2, q3⟩ := hq
      have e17 : aI h1 s 0 17 = x1 := by rw [aI_i _ _ _ _ (by omega), Nat.add_zero]; exact e2
      rw [e17] at q2 q3
      rw [aI_i _ _ _ _ (by omega), Nat.add_zero] at q2
      unfold gX5_restsAt_J1
      have zbf : zbl (zI h1 s 16) = true := by
        rw [q2]
        split
        · decide
        · decide
      rw [zbf, zg_1, q2]
      refine ⟨h1, rfl, s2, s3, fun hb i hi => ?_⟩
      have := q3 hb i hi
      rwa [aJ_i _ _ _ _ (by omega)] at this
    · rw [if_neg e2]; exact hnew
end Ops
