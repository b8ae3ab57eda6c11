/-! seen: the sums on both sides -/
theorem seenAt_ok {h : Zh} {s c N r m g : Nat} {e d : Int32} (hs : seR h s) (rc : zR h s 10 = some c) (hc : chAt h c N r e d) (h2 : 2 ≤ N) (hN : N ≤ 8) (hr : r ≤ 1) (k : seH (aI h s) N r m g) (hn : (hdL N r m g).length ≤ 10) {R : Nat → Int64} (hR : ∀ i, i < (hdL N r m g).length → zJ h (s + 6) i = R i) {a b : Nat} (ha : a < N) (hb : b < N) (hne : cmV (seU N r m g (seV R a b) (hdL N r m g).length) (seU N r m g (fun o _ => R o * R o) (hdL N r m g).length) ≠ 0) (x3 : Int32) : gX5_seenAt h s (nI a) (nI b) x3 = some ((if x3 = 0 then seU N r m g (fun o _ => R o * R o) (hdL N r m g).length else seU N r m g (seV R a b) (hdL N r m g).length) / cmV (seU N r m g (seV R a b) (hdL N r m g).length) (seU N r m g (fun o _ => R o * R o) (hdL N r m g).length)) := by
  have h256 : 2 ^ N ≤ 2 ^ 8 := Nat.pow_le_pow_right (by decide) hN
  obtain ⟨-, k12, k13, kh⟩ := k
  rw [aI_i _ _ _ _ (by omega), Nat.add_zero] at k12 k13
  obtain ⟨r0, l0⟩ : zR h s 0 = some (s + 1) ∧ zL h (s + 1) = 38 := hs 0 (by omega)
  obtain ⟨r5, l5⟩ : zR h s 5 = some (s + 6) ∧ zL h (s + 6) = 10 := hs 5 (by omega)
  have hhd : ∀ i, i < (hdL N r m g).length → zI h (s + 1) i = nI (hdA N r m g i) := fun i hi => by
    have := kh i _ (hdA_s hi)
    rwa [aI_i _ _ _ _ (by omega)] at this
  have hlt : ∀ i, i < (hdL N r m g).length → hdA N r m g i < 2 ^ N := fun i hi => hdA_lt hi
  unfold gX5_seenAt
  rw [zjn_]
  generalize hK : gX5_seenAt_J2 x3 = K
  have hmain := zlp_it (R := Option Int64) (z := fun (_ : Int64) (_ : Int64) (_ : Int32) => (none : Option (Int64))) (F := gX5_seenAt_L7 h s (nI a) (nI b) K) (fun o (F : Int64 → Int64 → Int32 → Option Int64) => F (seU N r m g (seV R a b) o) (seU N r m g (fun o _ => R o * R o) o) (nI o)) (K (seU N r m g (seV R a b) (hdL N r m g).length) (seU N r m g (fun o _ => R o * R o) (hdL N r m g).length)) (hdL N r m g).length ?_ ?_ zFU (by unfold zFU; omega)
  · refine Eq.trans hmain ?_
    rw [← hK]
    unfold gX5_seenAt_J2 gX5_seenAt_J1
    rw [comC, zbj_s, if_neg (fun hh => hne ((cmp0 _).mp hh)), zjn_]
    by_cases h1 : x3 = 0
    · rw [if_pos h1, if_pos h1]
      exact if_neg hne
    · rw [if_neg h1, if_neg h1]
      exact if_neg hne
  · intro o ho rr
    have hol := olN_le N r (hdA N r m g o)
    have jo : zin (nI o) 10 = true := zin_nI (by omega) (by omega)
    have jo2 : zin (nI o) 38 = true := zin_nI (by omega) (by omega)
    have yo : zx (nI o) = o := zx_nI (by omega)
    have s1 : ∀ F, seU N r m g F (o + 1) = seU N r m g F o + sF (fun k => F o (tuP N r (hdA N r m g o) k)) (List.range (olN N r (hdA N r m g o))) := fun F => sF_range _ o
    show gX5_seenAt_L7 h s (nI a) (nI b) K rr (seU N r m g (seV R a b) o) (seU N r m g (fun o _ => R o * R o) o) (nI o) = rr (seU N r m g (seV R a b) (o + 1)) (seU N r m g (fun o _ => R o * R o) (o + 1)) (nI (o + 1))
    rw [s1, s1]
    generalize seU N r m g (seV R a b) o = U0
    generalize seU N r m g (fun o _ => R o * R o) o = D0
    unfold gX5_seenAt_L7
    rw [k13, if_neg (zge_n ho (by omega)), zlt_, r5, zob_s, l5, jo, zg_1, zlt_, zob_s, l5, jo, zg_1, zlt_, yo, hR o ho, zlt_, r0, zob_s, l0, jo2, zg_1, zlt_, hhd o ho, orbitLength_ok rc hc h2 hN hr (hlt o ho), zbi_s, zjn_]
    have hin := zlp_it (R := Option Int64) (z := fun (_ : Int64) (_ : Int64) (_ : Int32) (_ : Int32) => (none : Option (Int64))) (F := gX5_seenAt_L6 h s (nI a) (nI b) (R o * R o) (nI (olN N r (hdA N r m g o))) (gX5_seenAt_J3 (nI o) rr)) (fun k (F : Int64 → Int64 → Int32 → Int32 → Option Int64) => F (U0 + sF (fun k => seV R a b o (tuP N r (hdA N r m g o) k)) (List.range k)) (D0 + sF (fun _ => R o * R o) (List.range k)) (nI (tuP N r (hdA N r m g o) k)) (nI k)) (gX5_seenAt_J3 (nI o) rr (U0 + sF (fun k => seV R a b o (tuP N r (hdA N r m g o) k)) (List.range (olN N r (hdA N r m g o)))) (D0 + sF (fun _ => R o * R o) (List.range (olN N r (hdA N r m g o))))) (olN N r (hdA N r m g o)) ?_ ?_ zFU (by unfold zFU; omega)
    · have e0 : ∀ (X : Int64) (F : Nat → Int64), X + sF F (List.range 0) = X := fun X F => by show X + 0 = X; grind
      rw [e0, e0] at hin
      refine Eq.trans hin ?_
      unfold gX5_seenAt_J3
      rw [← nI_sc]
    · intro kk hk rr'
      have htl := tuP_lt h2 hN hr (hlt o ho) kk
      show gX5_seenAt_L6 h s (nI a) (nI b) (R o * R o) (nI (olN N r (hdA N r m g o))) (gX5_seenAt_J3 (nI o) rr) rr' (U0 + sF (fun k => seV R a b o (tuP N r (hdA N r m g o) k)) (List.range kk)) (D0 + sF (fun _ => R o * R o) (List.range kk)) (nI (tuP N r (hdA N r m g o) kk)) (nI kk) = rr' (U0 + sF (fun k => seV R a b o (tuP N r (hdA N r m g o) k)) (List.range (kk + 1))) (D0 + sF (fun _ => R o * R o) (List.range (kk + 1))) (nI (tuN N r (tuP N r (hdA N r m g o) kk))) (nI (kk + 1))
      rw [sF_range, sF_range]
      have hsv : seV R a b o (tuP N r (hdA N r m g o) kk) = if tuP N r (hdA N r m g o) kk / 2 ^ a % 2 = tuP N r (hdA N r m g o) kk / 2 ^ b % 2 then R o * R o else -(R o * R o) := rfl
      rw [hsv]
      generalize sF (fun k => seV R a b o (tuP N r (hdA N r m g o) k)) (List.range kk) = U1
      generalize sF (fun _ => R o * R o) (List.range kk) = D1
      generalize tuP N r (hdA N r m g o) kk = x at *
      have hJ4 : ∀ v, gX5_seenAt_J4 h s (R o * R o) (U0 + U1) (D0 + D1) (nI x) (nI kk) rr' v = rr' (U0 + (U1 + v)) (D0 + (D1 + R o * R o)) (nI (tuN N r x)) (nI (kk + 1)) := fun v => by
        unfold gX5_seenAt_J4
        rw [zlt_, zlt_, zlt_, rc, zob_s, turn_ok hc h2 hN hr x htl, zbi_s, ← nI_sc, show U0 + U1 + v = U0 + (U1 + v) by grind, show D0 + D1 + R o * R o = D0 + (D1 + R o * R o) by grind]
      unfold gX5_seenAt_L6
      rw [if_neg (zge_n hk (by omega)), zjn_, bit_fin x (by omega) a (by omega), bit_fin x (by omega) b (by omega)]
      unfold gX5_seenAt_J5
      by_cases h5 : x / 2 ^ a % 2 = x / 2 ^ b % 2
      · rw [if_pos (by rw [h5]), if_pos h5, zjn_, if_neg (show ¬ (1 : Int32) = 0 by decide), hJ4]
      · rw [if_neg (fun hh => h5 ((nI_inj (by omega) (by omega)).mp hh)), if_neg h5, zjn_, if_pos (show (0 : Int32) = 0 from rfl), hJ4]
    · intro rr'
      show gX5_seenAt_L6 h s (nI a) (nI b) (R o * R o) (nI (olN N r (hdA N r m g o))) (gX5_seenAt_J3 (nI o) rr) rr' _ _ _ (nI (olN N r (hdA N r m g o))) = _
      unfold gX5_seenAt_L6
      rw [if_pos (Int32.le_refl _)]
  · intro rr
    show gX5_seenAt_L7 h s (nI a) (nI b) K rr _ _ (nI (hdL N r m g).length) = _
    unfold gX5_seenAt_L7
    rw [k13, if_pos (Int32.le_refl _)]
theorem seenM {I : Nat → Nat → Int32} {N r m g : Nat} {e d : Int32} (J : Nat → Nat → Int64) (hc : mcAt (mH I J) N r e d) (h2 : 2 ≤ N) (hN : N ≤ 8) (hr : r ≤ 1) (hm : m ≤ N) (hI : lyI I N r m g) (hn : (hdL N r m g).length ≤ 10) {R : Nat → Int64} (hR : ∀ i, i < (hdL N r m g).length → J 13 i = R i) {a b : Nat} (ha : a < N) (hb : b < N) (K : Int64 → Int64 → Option (Int64 × Zh)) : zlp (fun (_ : Int64) (_ : Int64) (_ : Int32) => (none : Option (Int64 × Zh))) (gX12_seen_L6 0 (nI m) (nI a) (nI b) (mH I J) K) zFU 0 0 0 = K (seU N r m g (seV R a b) (hdL N r m g).length) (seU N r m g (fun o _ => R o * R o) (hdL N r m g).length) := by
  have h256 : 2 ^ N ≤ 2 ^ 8 := Nat.pow_le_pow_right (by decide) hN
  have hsm := stM_many hN hc J
  let q : Nat → Int64 := fun s => J 13 (zx (I 2 s)) * J 13 (zx (I 2 s))
  let U : Nat → Int64 := fun s => if I 2 s < 0 then 0 else if s / 2 ^ a % 2 = s / 2 ^ b % 2 then q s else -q s
  let D : Nat → Int64 := fun s => if I 2 s < 0 then 0 else q s
  have hq : ∀ s o, o < (hdL N r m g).length → I 2 s = nI o → q s = R o * R o := fun s o ho h1 => by
    show J 13 (zx (I 2 s)) * J 13 (zx (I 2 s)) = _
    rw [h1, zx_nI (by omega), hR o ho]
  have eU : sF U (List.range (2 ^ N)) = seU N r m g (seV R a b) (hdL N r m g).length := seU_M hI _ _ (fun s hs => ⟨fun h1 => if_pos h1, fun o ho h1 => by
    show (if I 2 s < 0 then 0 else if s / 2 ^ a % 2 = s / 2 ^ b % 2 then q s else -q s) = seV R a b o s
    rw [if_neg (by rw [h1]; exact nI_pos (by omega)), hq s o ho h1]; rfl⟩)
  have eD : sF D (List.range (2 ^ N)) = seU N r m g (fun o _ => R o * R o) (hdL N r m g).length := seU_M hI _ _ (fun s hs => ⟨fun h1 => if_pos h1, fun o ho h1 => by
    show (if I 2 s < 0 then 0 else q s) = R o * R o
    rw [if_neg (by rw [h1]; exact nI_pos (by omega)), hq s o ho h1]⟩)
  rw [← eU, ← eD]
  refine zlp_it (R := Option (Int64 × Zh)) (z := fun (_ : Int64) (_ : Int64) (_ : Int32) => (none : Option (Int64 × Zh))) (F := gX12_seen_L6 0 (nI m) (nI a) (nI b) (mH I J) K) (fun s (F : Int64 → Int64 → Int32 → Option (Int64 × Zh)) => F (sF U (List.range s)) (sF D (List.range s)) (nI s)) _ (2 ^ N) ?_ ?_ zFU (by unfold zFU; omega)
  · intro s hs rr
    show gX12_seen_L6 0 (nI m) (nI a) (nI b) (mH I J) K rr (sF U (List.range s)) (sF D (List.range s)) (nI s) = rr (sF U (List.range (s + 1))) (sF D (List.range (s + 1))) (nI (s + 1))
    rw [sF_range, sF_range]
    generalize sF U (List.range s) = U0
    generalize sF D (List.range s) = D0
    have hpo : poN s < 16 := Nat.mod_lt _ (by decide)
    have hJ4 : ∀ u v, gX12_seen_J4 (nI s) rr u v = rr u v (nI (s + 1)) := fun u v => by unfold gX12_seen_J4; rw [← nI_sc]
    have z0 : ∀ x : Int64, x + 0 = x := fun x => by grind
    unfold gX12_seen_L6
    rw [hsm, zbi_s, if_neg (zge_n hs (by omega)), (popc_ok (show s < 256 by omega)).1, zbi_s, zjn_]
    rcases hI.2.2.2 s hs with h3 | ⟨o, x, kk, b1, b2, b3, b4⟩
    · have u0 : U s = 0 := if_pos h3
      have d0 : D s = 0 := if_pos h3
      have q2 : zI (mH I J) 2 s < 0 := h3
      rw [u0, d0, z0, z0]
      by_cases h1 : nI (syg 4 popK s) = nI m
      · rw [if_pos h1, zlt_, mR_7, zob_s, min_ (mL_2 _ _) (show s < 256 by omega) (by omega), zg_1, zx_nI (show s < 2 ^ 31 by omega), if_pos q2, hJ4]
      · rw [if_neg h1, hJ4]
    · have ho : o < (hdL N r m g).length := by
        apply Classical.byContradiction
        intro hh
        rw [List.getElem?_eq_none (by omega)] at b1
        cases b1
      have ex : x = hdA N r m g o := Option.some.inj (b1.symm.trans (hdA_s ho))
      have hpm : poN s = m := by
        rw [b4, ex, tuP_pop h2 hN hr (hdA_lt ho)]
        exact (hdA_isH ho).1
      have q2 : zI (mH I J) 2 s = nI o := b2
      have q13 : zJ (mH I J) 13 o = R o := hR o ho
      have eq : q s = R o * R o := hq s o ho b2
      have nn : ¬ I 2 s < 0 := by rw [b2]; exact nI_pos (by omega)
      have us : U s = if s / 2 ^ a % 2 = s / 2 ^ b % 2 then R o * R o else -(R o * R o) := by
        show (if I 2 s < 0 then 0 else if s / 2 ^ a % 2 = s / 2 ^ b % 2 then q s else -q s) = _
        rw [if_neg nn, eq]
      have ds : D s = R o * R o := (if_neg nn).trans eq
      have j2 : zin (nI s) (zL (mH I J) 2) = true := min_ (mL_2 _ _) (show s < 256 by omega) (by omega)
      have j13 : zin (nI o) (zL (mH I J) 13) = true := min_ (mL_13 _ _) (show o < 10 by omega) (by omega)
      have ys : zx (nI s) = s := zx_nI (by omega)
      have yo : zx (nI o) = o := zx_nI (by omega)
      have hal := areAlike_ok s a b 0 (by omega) (by omega) (by omega)
      have hJ5 : ∀ v, gX12_seen_J5 U0 D0 (gX12_seen_J4 (nI s) rr) (R o * R o) v = rr (U0 + v) (D0 + R o * R o) (nI (s + 1)) := fun v => by
        unfold gX12_seen_J5
        rw [zlt_, zlt_, hJ4]
      rw [if_pos (show nI (syg 4 popK s) = nI m by rw [← hpm]), us, ds]
      repeat (first | rw [mR_7] | rw [mR_18] | rw [j2] | rw [ys] | rw [q2] | rw [if_neg (nI_pos (show o < 2 ^ 31 by omega))] | rw [j13] | rw [yo] | rw [q13] | rw [hal] | rw [zlt_] | rw [zjn_] | rw [zob_s] | rw [zg_1] | rw [zbi_s] | rw [zbI_s] | rw [zbr_s] | rw [zbR_s] | rw [zbV_s] | rw [zbj_s] | rw [zbJ_s] | rw [zcs_s] | rw [zcs_n])
      by_cases h5 : s / 2 ^ a % 2 = s / 2 ^ b % 2
      · rw [if_pos h5, if_pos h5, if_neg (show ¬ (1 : Int32) = 0 by decide), hJ5]
      · rw [if_neg h5, if_neg h5, if_pos (show (0 : Int32) = 0 from rfl), hJ5]
  · intro rr
    show gX12_seen_L6 0 (nI m) (nI a) (nI b) (mH I J) K rr _ _ (nI (2 ^ N)) = _
    unfold gX12_seen_L6
    rw [hsm, zbi_s, if_pos (Int32.le_refl _)]
set_option maxHeartbeats 1000000 in
theorem seen_st {h : Zh} {o : Nat → Nat} {L : Led} {n : Nat} {w : Nat → Wt} {S : Nat → Option Sh} {fa tr : Int32} {I : Nat → Nat → Int32} {J : Nat → Nat → Int64} (p : stX (seC QTc QRc) h o L n w S fa tr) (q : stM I L n w S fa tr) (k : stOk L n w S) (x1 x2 x3 x4 x5 x6 : Int32) : stG (seC QTc QRc) (gX11_seen h 0 x1 x2 x3 x4 x5 x6) (gX12_seen (mH I J) 0 x1 x2 x3 x4 x5 x6) h := by
  obtain ⟨cc, c1, c2⟩ := cn_st p k.1
  obtain ⟨k1, k2, k3, k4, k5, k6, k7⟩ := (k.1.2.2 _ k.1.1).1
  have hmc := mc_st (J := J) q
  have hN1 : zI (mH I J) 0 1 = nI (L.1 L.2.2.1).1 := hmc.1
  have hlost : ∀ g', gX12_seen_J1 g' = some (-9223372036854775808, g') := fun g' => by
    unfold gX12_seen_J1 gX12_lost
    rw [zbj_s]
  have hJ8 : gX12_seen_J8 (gX12_seen_J7 (mH I J) 0 x1 x2 x3 x4 x5 x6) = some (-9223372036854775808, mH I J) := by
    unfold gX12_seen_J8 gX12_seen_J7
    rw [zjn_, if_pos (show (0 : Int32) = 0 from rfl), hlost]
  have e6a : x6 < 0 ↔ x6.toInt < 0 := Int32.lt_iff_toInt_lt
  have e6b : x6 ≤ 1 ↔ x6.toInt ≤ 1 := Int32.le_iff_toInt_le
  have hin6 : gX12_in x6.toInt64 0 1 = some (if inR x6 2 then 1 else 0) := by
    rw [in_ii, show (0 : Int64).toInt = 0 from rfl, show (1 : Int64).toInt = 1 from rfl]
    refine congrArg some ?_
    by_cases h1 : inR x6 2
    · rw [if_pos h1, if_pos ⟨h1.1, by have := h1.2; omega⟩]
    · rw [if_neg h1, if_neg (fun hh => h1 ⟨hh.1, by have := hh.2; omega⟩)]
  have hrd : ∀ (x : Int32) (N : Nat), N ≤ 8 → (x < 0 ↔ x.toInt < 0) ∧ (nI N ≤ x ↔ (N : Int) ≤ x.toInt) := fun x N hN => ⟨Int32.lt_iff_toInt_lt, by rw [Int32.le_iff_toInt_le, nI_int (by omega)]⟩
  unfold gX11_seen gX12_seen
  simp only [zjn_]
  rw [hN1, inK_ok (by omega), inK_ok (by omega), hin6, zbi_s, zbi_s, zbi_s, hJ8]
  have hcl : ∀ K : Option (Int64 × Zh), ¬ (inR x4 (L.1 L.2.2.1).1 ∧ inR x5 (L.1 L.2.2.1).1 ∧ inR x6 2) → (if x4 < 0 then some ((-9223372036854775808 : Int64), h) else if nI (L.1 L.2.2.1).1 ≤ x4 then some (-9223372036854775808, h) else if x5 < 0 then some (-9223372036854775808, h) else if nI (L.1 L.2.2.1).1 ≤ x5 then some (-9223372036854775808, h) else if x6 < 0 then some (-9223372036854775808, h) else if x6 ≤ 1 then K else some (-9223372036854775808, h)) = some (-9223372036854775808, h) := fun K hh => by
    obtain ⟨a1, a2⟩ := hrd x4 (L.1 L.2.2.1).1 k2
    obtain ⟨a3, a4⟩ := hrd x5 (L.1 L.2.2.1).1 k2
    by_cases f1 : x4 < 0
    · rw [if_pos f1]
    rw [if_neg f1]
    by_cases f2 : nI (L.1 L.2.2.1).1 ≤ x4
    · rw [if_pos f2]
    rw [if_neg f2]
    by_cases f3 : x5 < 0
    · rw [if_pos f3]
    rw [if_neg f3]
    by_cases f4 : nI (L.1 L.2.2.1).1 ≤ x5
    · rw [if_pos f4]
    rw [if_neg f4]
    by_cases f5 : x6 < 0
    · rw [if_pos f5]
    rw [if_neg f5]
    by_cases f6 : x6 ≤ 1
    · refine absurd ⟨⟨?_, ?_⟩, ⟨?_, ?_⟩, ?_, ?_⟩ hh
      · exact Int.not_lt.mp (fun e => f1 (a1.mpr e))
      · exact Int.not_le.mp (fun e => f2 (a2.mpr e))
      · exact Int.not_lt.mp (fun e => f3 (a3.mpr e))
      · exact Int.not_le.mp (fun e => f4 (a4.mpr e))
      · exact Int.not_lt.mp (fun e => f5 (e6a.mpr e))
      · have := e6b.mp f6; omega
    · rw [if_neg f6]
  have hmod : ∀ K : Option (Int64 × Zh), (¬ (inR x4 (L.1 L.2.2.1).1 ∧ inR x5 (L.1 L.2.2.1).1 ∧ inR x6 2) → (if (if inR x4 (L.1 L.2.2.1).1 then (1 : Int32) else 0) = 0 then some ((-9223372036854775808 : Int64), mH I J) else if (if inR x5 (L.1 L.2.2.1).1 then (1 : Int32) else 0) = 0 then some (-9223372036854775808, mH I J) else if (if inR x6 2 then (1 : Int32) else 0) = 0 then some (-9223372036854775808, mH I J) else K) = some (-9223372036854775808, mH I J)) ∧ ((inR x4 (L.1 L.2.2.1).1 ∧ inR x5 (L.1 L.2.2.1).1 ∧ inR x6 2) → (if (if inR x4 (L.1 L.2.2.1).1 then (1 : Int32) else 0) = 0 then some ((-9223372036854775808 : Int64), mH I J) else if (if inR x5 (L.1 L.2.2.1).1 then (1 : Int32) else 0) = 0 then some (-9223372036854775808, mH I J) else if (if inR x6 2 then (1 : Int32) else 0) = 0 then some (-9223372036854775808, mH I J) else K) = K) := fun K => by
    have n10 : ¬ (1 : Int32) = 0 := by decide
    have z00 : (0 : Int32) = 0 := rfl
    refine ⟨fun hh => ?_, fun hh => ?_⟩
    · by_cases f1 : inR x4 (L.1 L.2.2.1).1
      · rw [if_pos f1, if_neg n10]
        by_cases f2 : inR x5 (L.1 L.2.2.1).1
        · rw [if_pos f2, if_neg n10]
          by_cases f3 : inR x6 2
          · exact absurd ⟨f1, f2, f3⟩ hh
          · rw [if_neg f3, if_pos z00]
        · rw [if_neg f2, if_pos z00]
      · rw [if_neg f1, if_pos z00]
    · rw [if_pos hh.1, if_neg n10, if_pos hh.2.1, if_neg n10, if_pos hh.2.2, if_neg n10]
  by_cases hright : inR x4 (L.1 L.2.2.1).1 ∧ inR x5 (L.1 L.2.2.1).1 ∧ inR x6 2
  · rw [(hmod _).2 hright]
    unfold gX12_seen_J7
    rw [zjn_, if_neg (show ¬ (1 : Int32) = 0 by decide)]
    rcases noSec_ok c1 c2.2.1 hmc.1 k2 x1 x2 with ⟨e1, e2⟩ | ⟨m, g, hm, hg, rfl, rfl, e1, e2⟩
    · rw [e1, zbi_s, if_neg (show ¬ (1 : Int32) = 0 by decide), layRest_no e2, zbI_s, if_pos (show (0 : Int32) = 0 from rfl), hlost]
      exact stG_0 p q k _
    · rw [e1, zbi_s, if_pos (show (0 : Int32) = 0 from rfl), tooFar_ok, zbi_s]
      by_cases hx : x3.toInt.natAbs ≤ 50
      · obtain ⟨h1, o1, s, c, h2, I', J', fl, a1, a2, a3, a4, a5, a6, b1, b2, b3, b4⟩ := both_rest (J := J) p q k hm hg e2 hx
        obtain ⟨u1, u2⟩ := hrd x4 (L.1 L.2.2.1).1 k2
        obtain ⟨u3, u4⟩ := hrd x5 (L.1 L.2.2.1).1 k2
        obtain ⟨⟨r1, r2⟩, ⟨r3, r4⟩, r5, r6⟩ := hright
        rw [if_pos hx, if_pos (show (0 : Int32) = 0 from rfl), zlt_, c1.1, zob_s, chainNow_ok c1, zbr_s, zob_s, zlt_, c2.2.1, if_neg (show ¬ x4 < 0 from fun hh => by have := u1.mp hh; omega), if_neg (show ¬ nI (L.1 L.2.2.1).1 ≤ x4 from fun hh => by have := u2.mp hh; omega), if_neg (show ¬ x5 < 0 from fun hh => by have := u3.mp hh; omega), if_neg (show ¬ nI (L.1 L.2.2.1).1 ≤ x5 from fun hh => by have := u4.mp hh; omega), if_neg (show ¬ x6 < 0 from fun hh => by have := e6a.mp hh; omega), if_pos (show x6 ≤ 1 from e6b.mpr (by omega)), a1, zbR_s, zob_s, a2, zbI_s, b1, zbI_s]
        cases fl with
        | false =>
          rw [if_neg (show ¬ false = true by decide), if_pos (show (0 : Int32) = 0 from rfl), if_pos (show (0 : Int32) = 0 from rfl), hlost]
          exact ⟨_, h2, I', J', o1, L, n, w, S, fa, tr, rfl, rfl, a3, b2, k, a6⟩
        | true =>
          obtain ⟨hn, hrb, v1, v2⟩ := b4 rfl
          obtain ⟨a, ha, rfl⟩ := inR_f (x := x4) (n := (L.1 L.2.2.1).1) ⟨r1, r2⟩
          obtain ⟨b, hb, rfl⟩ := inR_f (x := x5) (n := (L.1 L.2.2.1).1) ⟨r3, r4⟩
          have hgd : gdB (rsC (seT (L.1 L.2.2.1) m g) (seN (L.1 L.2.2.1) m g) (seP (L.1 L.2.2.1) m g) x3.toInt) (seN (L.1 L.2.2.1) m g) (seN (L.1 L.2.2.1) m g) = true ∧ zrN (shF x3.toInt (seN (L.1 L.2.2.1) m g) (seP (L.1 L.2.2.1) m g)) (seN (L.1 L.2.2.1) m g) (seN (L.1 L.2.2.1) m g) 0 = 1 := by
            have h5 : rsB (seT (L.1 L.2.2.1) m g) (seN (L.1 L.2.2.1) m g) (seP (L.1 L.2.2.1) m g) x3.toInt = true := hrb
            unfold rsB at h5
            rw [Bool.and_eq_true] at h5
            exact ⟨h5.2, of_decide_eq_true h5.1⟩
          have hRb : ∀ i, i < seN (L.1 L.2.2.1) m g → absJ (reR (L.1 L.2.2.1) m g x3.toInt i) ≤ 1000000 := fun i hi => of_decide_eq_true (List.all_eq_true.mp hgd.1 i (List.mem_range.mpr hi))
          have hd0 : gdV (rsC (seT (L.1 L.2.2.1) m g) (seN (L.1 L.2.2.1) m g) (seP (L.1 L.2.2.1) m g) x3.toInt) (seN (L.1 L.2.2.1) m g) ≠ 0 := by
            have htab := tab_ok (e := (L.1 L.2.2.1).2.2.1) (d := (L.1 L.2.2.1).2.2.2) k1 k2 k3 hm hg k4 k5 k6 k7 hn
            have htr := tr_ok (e := (L.1 L.2.2.1).2.2.1) (d := (L.1 L.2.2.1).2.2.2) k1 k2 k3 hm hg k4 k5 k6 k7 hn
            have hbb := shF_b hx htab.1.1 htab.2.2
            have htop : shF x3.toInt (seN (L.1 L.2.2.1) m g) (seP (L.1 L.2.2.1) m g) 0 ≠ 0 := by
              show rZ _ _ (fun m' => (seP (L.1 L.2.2.1) m g m').toInt) _ 0 ≠ 0
              rw [rZ_top, show seP (L.1 L.2.2.1) m g 0 = 1 from htab.1.1]; decide
            obtain ⟨n0, nz⟩ := zr_1 hgd.2 htop
            obtain ⟨j, w1, w2⟩ := col_ne (T := seT (L.1 L.2.2.1) m g) (p := seP (L.1 L.2.2.1) m g) (c := x3.toInt) htab.1.1 htr n0 (fun hh => nz (by
              have := sF_b62 (hbb.1 _ (Nat.le_refl _) (seN (L.1 L.2.2.1) m g - 1) (Nat.sub_le _ _))
              have h5 : (oI (shF x3.toInt (seN (L.1 L.2.2.1) m g) (seP (L.1 L.2.2.1) m g) (seN (L.1 L.2.2.1) m g - 1))).toInt = (0 : Int64).toInt := congrArg Int64.toInt hh
              rw [show (0 : Int64).toInt = 0 from rfl] at h5
              exact this.symm.trans h5))
            obtain ⟨⟨-, f2, f3⟩, -⟩ := fstJ_ok (anyC (rsM (seT (L.1 L.2.2.1) m g) (seN (L.1 L.2.2.1) m g) (seP (L.1 L.2.2.1) m g) x3.toInt) (seN (L.1 L.2.2.1) m g)) (seN (L.1 L.2.2.1) m g) 0 ⟨j, Nat.zero_le _, by rw [Nat.zero_add]; exact w1, anyC_t.mpr ⟨j, w1, w2⟩⟩
            intro hh
            obtain ⟨i, z1, z2⟩ := anyC_t.mp f3
            exact z2 ((gdV_0 _ _).mp hh i z1)
          have hdn := down_ne (N := (L.1 L.2.2.1).1) (r := (L.1 L.2.2.1).2.1) (m := m) (g := g) hn hRb (share_ne hd0)
          have hcm : cmV (seU (L.1 L.2.2.1).1 (L.1 L.2.2.1).2.1 m g (seV (reR (L.1 L.2.2.1) m g x3.toInt) a b) (hdL (L.1 L.2.2.1).1 (L.1 L.2.2.1).2.1 m g).length) (seU (L.1 L.2.2.1).1 (L.1 L.2.2.1).2.1 m g (fun o _ => reR (L.1 L.2.2.1) m g x3.toInt o * reR (L.1 L.2.2.1) m g x3.toInt o) (hdL (L.1 L.2.2.1).1 (L.1 L.2.2.1).2.1 m g).length) ≠ 0 := fun hh => hdn (cmV_b.2.2.mp hh).2
          have hX := fun x => seenAt_ok (R := reR (L.1 L.2.2.1) m g x3.toInt) a4.2.2.1 a4.2.2.2.2.1 a4.2.2.2.2.2.1.2 k1 k2 k3 a5.2.2.1 hn v1 ha hb hcm x
          have hM := seenM (I := I') (R := reR (L.1 L.2.2.1) m g x3.toInt) J' (mc_st b2) k1 k2 k3 hm b3 hn v2 ha hb (gX12_seen_J3 x6 (mH I' J'))
          rw [if_pos (show true = true from rfl), if_neg (show ¬ (1 : Int32) = 0 by decide), if_neg (show ¬ (1 : Int32) = 0 by decide), zjn_, hM]
          have eM : gX12_seen_J3 x6 (mH I' J') (seU (L.1 L.2.2.1).1 (L.1 L.2.2.1).2.1 m g (seV (reR (L.1 L.2.2.1) m g x3.toInt) a b) (hdL (L.1 L.2.2.1).1 (L.1 L.2.2.1).2.1 m g).length) (seU (L.1 L.2.2.1).1 (L.1 L.2.2.1).2.1 m g (fun o _ => reR (L.1 L.2.2.1) m g x3.toInt o * reR (L.1 L.2.2.1) m g x3.toInt o) (hdL (L.1 L.2.2.1).1 (L.1 L.2.2.1).2.1 m g).length) = some ((if x6 = 0 then seU (L.1 L.2.2.1).1 (L.1 L.2.2.1).2.1 m g (seV (reR (L.1 L.2.2.1) m g x3.toInt) a b) (hdL (L.1 L.2.2.1).1 (L.1 L.2.2.1).2.1 m g).length else seU (L.1 L.2.2.1).1 (L.1 L.2.2.1).2.1 m g (fun o _ => reR (L.1 L.2.2.1) m g x3.toInt o * reR (L.1 L.2.2.1) m g x3.toInt o) (hdL (L.1 L.2.2.1).1 (L.1 L.2.2.1).2.1 m g).length) / cmV (seU (L.1 L.2.2.1).1 (L.1 L.2.2.1).2.1 m g (seV (reR (L.1 L.2.2.1) m g x3.toInt) a b) (hdL (L.1 L.2.2.1).1 (L.1 L.2.2.1).2.1 m g).length) (seU (L.1 L.2.2.1).1 (L.1 L.2.2.1).2.1 m g (fun o _ => reR (L.1 L.2.2.1) m g x3.toInt o * reR (L.1 L.2.2.1) m g x3.toInt o) (hdL (L.1 L.2.2.1).1 (L.1 L.2.2.1).2.1 m g).length), mH I' J') := by
            unfold gX12_seen_J3 gX12_seen_J2
            rw [zjn_, comM]
            by_cases h6 : x6 = 0
            · rw [if_pos h6, if_pos h6]
              exact if_neg hcm
            · rw [if_neg h6, if_neg h6]
              exact if_neg hcm
          rw [eM]
          unfold gX11_seen_J1
          by_cases h6 : x6 = 0
          · rw [if_pos h6, if_pos h6, hX, zbj_s, if_neg (show ¬ (1 : Int32) = 0 by decide)]
            exact ⟨_, h2, I', J', o1, L, n, w, S, fa, tr, rfl, rfl, a3, b2, k, a6⟩
          · rw [if_neg h6, if_neg h6, hX, zbj_s, if_pos (show (0 : Int32) = 0 from rfl)]
            exact ⟨_, h2, I', J', o1, L, n, w, S, fa, tr, rfl, rfl, a3, b2, k, a6⟩
      · rw [if_neg hx, if_neg (show ¬ (1 : Int32) = 0 by decide), layRest_far _ _ hx, zbI_s, if_pos (show (0 : Int32) = 0 from rfl), hlost]
        exact stG_0 p q k _
  · rw [(hmod _).1 hright]
    rcases noSec_ok c1 c2.2.1 hmc.1 k2 x1 x2 with ⟨e1, e2⟩ | ⟨m, g, hm, hg, rfl, rfl, e1, e2⟩
    · rw [e1, zbi_s, if_neg (show ¬ (1 : Int32) = 0 by decide)]
      exact stG_0 p q k _
    · rw [e1, zbi_s, if_pos (show (0 : Int32) = 0 from rfl), tooFar_ok, zbi_s]
      by_cases hx : x3.toInt.natAbs ≤ 50
      · rw [if_pos hx, if_pos (show (0 : Int32) = 0 from rfl), zlt_, c1.1, zob_s, chainNow_ok c1, zbr_s, zob_s, zlt_, c2.2.1, hcl _ hright]
        exact stG_0 p q k _
      · rw [if_neg hx, if_neg (show ¬ (1 : Int32) = 0 by decide)]
        exact stG_0 p q k _
