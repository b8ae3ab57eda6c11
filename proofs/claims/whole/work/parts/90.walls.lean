/-! walls in the class -/
abbrev wA (w : Wt) (n : Nat) : Nat → Nat → Int := fun s t => (alN w n s t 1 0).toInt
theorem vP_w (w : Wt) {n : Nat} (hn : n ≤ 6) : ∀ (r t : Nat), t < 2 ^ n → pS t 8 ≠ r → vP (wA w n) (2 ^ n) 0 r t = 0
  | 0, t, _, h => if_neg (fun e => h (by rw [e]; decide))
  | r + 1, t, ht, h => by
    refine iS_z _ (fun x hx => ?_)
    have hx := List.mem_range.mp hx
    by_cases e : pS x 8 = r
    · have h1 : wA w n x t = 0 := by
        show (alN w n x t 1 0).toInt = 0
        rw [wallN_z (by rw [← pS8 hn hx, ← pS8 hn ht]; omega)]; rfl
      rw [h1, Int.mul_zero]
    · rw [vP_w w hn r x hx e, Int.zero_mul]
def waG (A : Nat → Nat → Int) (z r : Nat) (g : Nat → Int64) (t : Nat) : Nat → Int64 := fun y => if y < t ∧ pS y 8 = r + 1 then mP (vP A z 0 (r + 1) y) else g y
theorem waG_s (A : Nat → Nat → Int) (z r : Nat) (g : Nat → Int64) (t : Nat) : (pS t 8 = r + 1 → updJ (waG A z r g t) t (mP (vP A z 0 (r + 1) t)) = waG A z r g (t + 1)) ∧ (pS t 8 ≠ r + 1 → waG A z r g t = waG A z r g (t + 1)) := by
  refine ⟨fun h => ?_, fun h => ?_⟩
  · funext y
    unfold updJ waG
    by_cases e : y = t
    · rw [if_pos e, if_pos ⟨by omega, by rw [e]; exact h⟩, e]
    · rw [if_neg e]
      by_cases e2 : y < t ∧ pS y 8 = r + 1
      · rw [if_pos e2, if_pos ⟨by omega, e2.2⟩]
      · rw [if_neg e2, if_neg (fun hh => e2 ⟨by omega, hh.2⟩)]
  · funext y
    unfold waG
    by_cases e2 : y < t ∧ pS y 8 = r + 1
    · rw [if_pos e2, if_pos ⟨by omega, e2.2⟩]
    · rw [if_neg e2, if_neg (fun hh => e2 ⟨by
        have : y ≠ t := fun e => h (by rw [← e]; exact hh.2)
        omega, hh.2⟩)]
theorem waysTo_ok {h : Zh} {o : Nat → Nat} {s a k : Nat} {w : Wt} (x : icS h o s) (hv : wtOk w) (xa : wtX h a k w) {n r t : Nat} (hn : n ≤ 6) (hr : r < n) (ht : t < 2 ^ n) (hg : ∀ y, y < 2 ^ n → pS y 8 = r → zJ h (s + 6) y = mP (vP (wA w n) (2 ^ n) 0 r y)) : gX1_waysTo h s (some a) (nI n) (nI t) (nI r) = some (mP (vP (wA w n) (2 ^ n) 0 (r + 1) t)) := by
  have h64 : 2 ^ n ≤ 2 ^ 6 := Nat.pow_le_pow_right (by decide) hn
  obtain ⟨sh, -, -⟩ := shl_fin n (by omega)
  obtain ⟨r5, l5⟩ : zR h s 5 = some (s + 6) ∧ zL h (s + 6) = 64 := x.2 5 (by omega)
  have hw := vP_w w hn r
  unfold gX1_waysTo
  have hh := zlp_it (R := Option Int64) (z := fun (_ : Int64) (_ : Int32) => (none : Option (Int64))) (F := gX1_waysTo_L2 h s (some a) (nI n) (nI t) (nI r)) (fun y (F : Int64 → Int32 → Option Int64) => F (mP (iS (fun y => vP (wA w n) (2 ^ n) 0 r y * wA w n y t) (List.range y))) (nI y)) (some (mP (vP (wA w n) (2 ^ n) 0 (r + 1) t))) (2 ^ n) ?_ ?_ zFU (by unfold zFU; omega)
  · exact hh
  · intro y hy rr
    show gX1_waysTo_L2 h s (some a) (nI n) (nI t) (nI r) rr (mP (iS (fun y => vP (wA w n) (2 ^ n) 0 r y * wA w n y t) (List.range y))) (nI y) = rr (mP (iS (fun y => vP (wA w n) (2 ^ n) 0 r y * wA w n y t) (List.range (y + 1)))) (nI (y + 1))
    rw [iS_range]
    generalize iS (fun y => vP (wA w n) (2 ^ n) 0 r y * wA w n y t) (List.range y) = acc
    have hp8 := pS_le y 8
    have hJ : ∀ c, gX1_waysTo_J1 (nI y) rr c = rr c (nI (y + 1)) := fun c => by unfold gX1_waysTo_J1; rw [← nI_sc]
    unfold gX1_waysTo_L2
    rw [sh, if_neg (zge_n hy (by omega)), bitCount_ok (by omega), zbi_s, zjn_]
    by_cases e : pS y 8 = r
    · have hal : gX1_along h (some a) (nI n) (nI y) (nI t) 1 0 = _ := alongX hv xa (m := n) (s := y) (t := t) (f := 1) (g := 0) (by omega) (by omega) (by omega) (by omega) (by omega)
      have i5 : zin (nI y) (zL h (s + 6)) = true := by rw [l5]; exact zin_nI (by omega) (by omega)
      have hfm := floorMod_mac acc (vP (wA w n) (2 ^ n) 0 r y) (a := alN w n y t 1 0) (Nat.le_trans (alN_b hv (by omega) y t 1 0) (by decide))
      rw [if_pos (by rw [e]), zlt_, r5, zob_s, i5, zg_1, hal, zbj_s, zx_nI (show y < 2 ^ 31 by omega), hg y hy e, hfm, zbj_s, hJ]
    · rw [if_neg (fun hh => e ((nI_inj (by omega) (by omega)).mp hh)), hJ, hw y hy e, Int.zero_mul, Int.add_zero]
  · intro rr
    show gX1_waysTo_L2 h s (some a) (nI n) (nI t) (nI r) rr _ (nI (2 ^ n)) = _
    unfold gX1_waysTo_L2
    rw [sh, if_pos (Int32.le_refl _)]
    rfl
theorem pS_full : ∀ n, n ≤ 6 → pS (2 ^ n - 1) 8 = n := by
  have h : (List.range 7).all (fun n => Nat.beq (pS (2 ^ n - 1) 8) n) = true := by decide +kernel
  intro n hn
  exact Nat.eq_of_beq_eq_true (List.all_eq_true.mp h n (List.mem_range.mpr (by omega)))
theorem walX {h : Zh} {o : Nat → Nat} {s a k : Nat} {w : Wt} (x : icS h o s) (hv : wtOk w) (xa : wtX h a k w) {n : Nat} (hn : n ≤ 6) : ∃ h', gX1_betweenWalls h s (some a) (nI n) = some ((mP (vP (wA w n) (2 ^ n) 0 n (2 ^ n - 1))).toInt32, h') ∧ icM s h h' := by
  have h64 : 2 ^ n ≤ 2 ^ 6 := Nat.pow_le_pow_right (by decide) hn
  have hz1 : 1 ≤ 2 ^ n := by have := Nat.pow_pos (n := n) (show 0 < 2 by decide); omega
  obtain ⟨sh, -, -⟩ := shl_fin n (by omega)
  obtain ⟨r5, l5⟩ : zR h s 5 = some (s + 6) ∧ zL h (s + 6) = 64 := x.2 5 (by omega)
  have r5' : ∀ g, zR (wRJ h (s + 6) g) s 5 = some (s + 6) := fun _ => r5
  have hro : ∀ (d r : Nat) (g : Nat → Int64) (fu : Nat), r + d = n → d < fu → (∀ t, t < 2 ^ n → pS t 8 ≤ r → g t = mP (vP (wA w n) (2 ^ n) 0 (pS t 8) t)) → ∃ g', zlp (fun (_ : Int32) (_ : Zh) => (none : Option (Int32 × Zh))) (gX1_betweenWalls_L5 s (some a) (nI n) (gX1_betweenWalls_J1 s (nI n))) fu (nI r) (wRJ h (s + 6) g) = some ((mP (vP (wA w n) (2 ^ n) 0 n (2 ^ n - 1))).toInt32, wRJ h (s + 6) g') := by
    intro d
    induction d with
    | zero =>
      intro r g fu hr hfu hg
      have : r = n := by omega
      subst this
      obtain ⟨fu, rfl⟩ : ∃ f, fu = f + 1 := ⟨fu - 1, by omega⟩
      refine ⟨g, ?_⟩
      show gX1_betweenWalls_L5 s (some a) (nI r) _ _ (nI r) _ = _
      unfold gX1_betweenWalls_L5
      rw [if_pos (Int32.le_refl _)]
      have ez : nI (2 ^ r) - 1 = nI (2 ^ r - 1) := by
        have : nI (2 ^ r) = nI (2 ^ r - 1) + 1 := by rw [← nI_sc]; congr 1; omega
        rw [this]; grind
      have i5 : zin (nI (2 ^ r - 1)) (zL h (s + 6)) = true := by rw [l5]; exact zin_nI (by omega) (by omega)
      have hp := pS_full r hn
      unfold gX1_betweenWalls_J1
      rw [zlt_, r5', zob_s, sh, ez, wRJ_L, i5, zg_1, zx_nI (show 2 ^ r - 1 < 2 ^ 31 by omega), wRJ_e, hg (2 ^ r - 1) (by omega) (by omega), hp]
    | succ d ih =>
      intro r g fu hr hfu hg
      obtain ⟨fu, rfl⟩ : ∃ f, fu = f + 1 := ⟨fu - 1, by omega⟩
      have hl4 : ∀ K : Zh → Option (Int32 × Zh), zlp (fun (_ : Int32) (_ : Zh) => (none : Option (Int32 × Zh))) (gX1_betweenWalls_L4 s (some a) (nI n) (nI r) K) zFU 0 (wRJ h (s + 6) g) = K (wRJ h (s + 6) (waG (wA w n) (2 ^ n) r g (2 ^ n))) := by
        intro K
        have hh := zlp_it (R := Option (Int32 × Zh)) (z := fun (_ : Int32) (_ : Zh) => (none : Option (Int32 × Zh))) (F := gX1_betweenWalls_L4 s (some a) (nI n) (nI r) K) (fun t (F : Int32 → Zh → Option (Int32 × Zh)) => F (nI t) (wRJ h (s + 6) (waG (wA w n) (2 ^ n) r g t))) (K (wRJ h (s + 6) (waG (wA w n) (2 ^ n) r g (2 ^ n)))) (2 ^ n) ?_ ?_ zFU (by unfold zFU; omega)
        · have e0 : waG (wA w n) (2 ^ n) r g 0 = g := by
            funext y
            exact if_neg (fun hh => Nat.not_lt_zero _ hh.1)
          rw [e0] at hh
          exact hh
        · intro t ht rr
          have hp8 := pS_le t 8
          show gX1_betweenWalls_L4 s (some a) (nI n) (nI r) K rr (nI t) (wRJ h (s + 6) (waG (wA w n) (2 ^ n) r g t)) = rr (nI (t + 1)) (wRJ h (s + 6) (waG (wA w n) (2 ^ n) r g (t + 1)))
          have hJ : ∀ c, gX1_betweenWalls_J3 (nI t) rr c = rr (nI (t + 1)) c := fun c => by unfold gX1_betweenWalls_J3; rw [← nI_sc]
          obtain ⟨w1, w2⟩ := waG_s (wA w n) (2 ^ n) r g t
          unfold gX1_betweenWalls_L4
          rw [sh, if_neg (zge_n ht (by omega)), bitCount_ok (by omega), zbi_s, zjn_, ← nI_sc]
          by_cases e : pS t 8 = r + 1
          · have hm := icM.W (s := s) h (s + 6) (waG (wA w n) (2 ^ n) r g t) (by omega)
            have hwt : gX1_waysTo (wRJ h (s + 6) (waG (wA w n) (2 ^ n) r g t)) s (some a) (nI n) (nI t) (nI r) = _ := waysTo_ok (x.mv hm) hv (show wtX (wRJ h (s + 6) (waG (wA w n) (2 ^ n) r g t)) a k w from xa) hn (by omega) ht (fun y hy hyr => by
              rw [wRJ_e]
              show (if y < t ∧ pS y 8 = r + 1 then _ else g y) = _
              rw [if_neg (fun hh => by omega), hg y hy (by omega), hyr])
            have i5 : zin (nI t) (zL h (s + 6)) = true := by rw [l5]; exact zin_nI (by omega) (by omega)
            rw [if_pos (by rw [e]), zlt_, r5', hwt, zbj_s, zob_s, wRJ_L, i5, zg_1, zx_nI (show t < 2 ^ 31 by omega), zlt_, hJ, wRJ_s, w1 e]
          · rw [if_neg (fun hh => e ((nI_inj (by omega) (by omega)).mp hh)), hJ, w2 e]
        · intro rr
          show gX1_betweenWalls_L4 s (some a) (nI n) (nI r) K rr (nI (2 ^ n)) _ = _
          unfold gX1_betweenWalls_L4
          rw [sh, if_pos (Int32.le_refl _)]
      obtain ⟨g', hg'⟩ := ih (r + 1) (waG (wA w n) (2 ^ n) r g (2 ^ n)) fu (by omega) (by omega) (fun t ht hp => by
        show (if t < 2 ^ n ∧ pS t 8 = r + 1 then _ else g t) = _
        by_cases e : pS t 8 = r + 1
        · rw [if_pos ⟨ht, e⟩, e]
        · rw [if_neg (fun hh => e hh.2), hg t ht (by omega)])
      refine ⟨g', ?_⟩
      rw [← hg']
      show gX1_betweenWalls_L5 s (some a) (nI n) _ _ (nI r) _ = _
      generalize zlp (fun (_ : Int32) (_ : Zh) => (none : Option (Int32 × Zh))) (gX1_betweenWalls_L5 s (some a) (nI n) (gX1_betweenWalls_J1 s (nI n))) fu = Z
      unfold gX1_betweenWalls_L5
      rw [if_neg (zge_n (show r < n by omega) (by omega)), zjn_, hl4]
      unfold gX1_betweenWalls_J2
      rw [← nI_sc]
  obtain ⟨g', hg'⟩ := hro n 0 (updJ (z0f (zJ h (s + 6)) 64) 0 1) zFU (by omega) (by unfold zFU; omega) (fun t ht hp => by
    have e : pS t 8 = 0 := by omega
    rw [e]
    unfold updJ
    by_cases e0 : t = 0
    · rw [if_pos e0]
      show _ = mP (if t = 0 then 1 else 0)
      rw [if_pos e0, mP_1]
    · rw [if_neg e0]
      show (if t < 64 then (0 : Int64) else _) = mP (if t = 0 then 1 else 0)
      rw [if_neg e0, mP_0, if_pos (by omega)])
  refine ⟨_, ?_, icM.W h (s + 6) g' (by omega)⟩
  have i0 : zin 0 (zL h (s + 6)) = true := by rw [l5]; decide
  unfold gX1_betweenWalls
  rw [zlt_, r5, fillJ_ok l5 (by omega), zbV_s, zlt_, r5', zob_s, wRJ_L, i0, zg_1, show zx 0 = 0 from rfl, zlt_, zjn_, wRJ_s]
  exact hg'
section Ops
variable {SC : Ch → (Nat → Nat → Int32) → (Nat → Nat → Int64) → Prop} {h h' : Zh} {o o' : Nat → Nat} {L : Led} {n : Nat} {w : Nat → Wt} {S : Nat → Option Sh} {fa tr : Int32} {I : Nat → Nat → Int32} {J : Nat → Nat → Int64}
theorem walls_st (p : stX SC h o L n w S fa tr) (q : stM I L n w S fa tr) (hst : stOk L n w S) (x1 x2 : Int32) : stG SC (gX11_walls h 0 x1 x2) (gX12_walls (mH I J) 0 x1 x2) h := by
  have hn := hst.2.1.1
  unfold gX11_walls gX12_walls
  rw [noWeightsM q.2.1 hn, zbi_s]
  by_cases h1 : inR x1 n
  · rw [if_pos h1, if_pos rfl, in_ii, show (1 : Int64).toInt = 1 from rfl, show (6 : Int64).toInt = 6 from rfl, zbi_s]
    obtain ⟨k, hk, rfl⟩ := inR_f h1
    obtain ⟨a, a1, a2, a3⟩ := weightsAt_s p hn hk
    rw [a1, zbr_s, zcs_s, zjn_]
    have e1 : x2 < 1 ↔ x2.toInt < 1 := Int32.lt_iff_toInt_lt
    have e2 : x2 ≤ 6 ↔ x2.toInt ≤ 6 := Int32.le_iff_toInt_le
    by_cases h3 : 1 ≤ x2.toInt ∧ x2.toInt ≤ 6
    · rw [if_pos h3, if_neg (show ¬ (1 : Int32) = 0 by decide), if_neg (fun hh => by have := e1.mp hh; omega), if_pos (e2.mpr h3.2)]
      obtain ⟨m, hm, rfl⟩ := inR_f (x := x2) (n := 7) (by unfold inR; omega)
      obtain ⟨h1', o1, s, g1, p1, e7, hx1, mw, bN, bS⟩ := iceRows_ok p
      obtain ⟨h2', g2, m2⟩ := walX hx1 (hst.2.1.2 k hk) (a3.mv mw (by omega) a2) (show m ≤ 6 by omega)
      obtain ⟨J', t1⟩ := wallsM J q.2.1 hn hk (show m ≤ 6 by omega)
      have p2 := stX_ice (m2.mv (fun a ha => (hx1.1 a ha).2)) e7 (hx1.mv m2) p1
      obtain ⟨sh, -, -⟩ := shl_fin m (by omega)
      rw [g1, zbR_s, zob_s, g2, zbI_s, zlt_, sh, zjn_]
      exact ⟨_, h2', I, J', o1, L, n, w, S, fa, tr, rfl, t1, p2, q, hst, by have := m2.1.1; omega, by have := m2.1.2; omega⟩
    · rw [if_neg h3, if_pos rfl]
      have : (if x2 < 1 then gX11_walls_J1 h else if x2 ≤ 6 then zbR (gX11_iceRows h 0) (fun r24 h1 => Option.bind r24 (fun a25 => zbI (gX1_betweenWalls h1 a25 (some a) x2) (fun x26 h2 => (some (x26, h2))))) else gX11_walls_J1 h) = some (-2, h) := by
        by_cases h4 : x2 < 1
        · rw [if_pos h4]; rfl
        · rw [if_neg h4, if_neg (fun hh => h3 ⟨Int.not_lt.mp (fun hh => h4 (e1.mpr hh)), e2.mp hh⟩)]; rfl
      rw [this]
      exact stG_0 p q hst _
  · rw [if_neg h1, if_neg (by decide), weightsAt_n p hn x1 h1, zbr_s, zcs_n]
    exact stG_0 p q hst _
end Ops
