/-! ice on rings in the class -/
theorem gr_now {W z : Nat} (val : Nat → Nat → Int64) (g0 : Nat → Int64) {i j : Nat} (hj : j < W) : grF W z val g0 i j (W * i + j) = g0 (W * i + j) := by
  obtain ⟨d1, d2⟩ := gr_dm (W := W) (i := i) (j := j) hj
  unfold grF
  rw [d1, d2, if_neg (by omega)]
theorem multiplyRest_ok {h : Zh} {r0 r1 r2 z : Nat} (hz : z ≤ 20) (l0 : zL h r0 = 400) (l1 : zL h r1 = 400) (l2 : zL h r2 = 400) (n0 : r0 ≠ r2) (n1 : r1 ≠ r2) {A B : Nat → Nat → Int} (hA : ∀ i j, i < z → j < z → zJ h r0 (20 * i + j) = mP (A i j)) (hB : ∀ i j, i < z → j < z → zJ h r1 (20 * i + j) = mP (B i j)) : gX1_multiplyRest h (some r0) (some r1) (some r2) (nI z) = some (wRJ h r2 (grF 20 z (fun i j => mP (iS (fun k => A i k * B k j) (List.range z))) (zJ h r2) z 0)) := by
  let V := fun i j => mP (iS (fun k => A i k * B k j) (List.range z))
  let g := fun i j => grF 20 z V (zJ h r2) i j
  unfold gX1_multiplyRest
  have hl3 : ∀ i j, i < z → j < z → ∀ (f : Nat → Int64) (K : Int64 → Option Zh), zlp (fun (_ : Int64) (_ : Int32) => (none : Option (Zh))) (gX1_multiplyRest_L3 (some r0) (some r1) (nI z) (nI i) (nI j) (wRJ h r2 f) K) zFU 0 0 = K (V i j) := by
    intro i j hi hj f K
    have hh := zlp_it (R := Option Zh) (z := fun (_ : Int64) (_ : Int32) => (none : Option (Zh))) (F := gX1_multiplyRest_L3 (some r0) (some r1) (nI z) (nI i) (nI j) (wRJ h r2 f) K) (fun k (F : Int64 → Int32 → Option Zh) => F (mP (iS (fun k => A i k * B k j) (List.range k))) (nI k)) (K (V i j)) z ?_ ?_ zFU (by unfold zFU; omega)
    · exact hh
    · intro k hk r
      show gX1_multiplyRest_L3 (some r0) (some r1) (nI z) (nI i) (nI j) (wRJ h r2 f) K r (mP (iS (fun k => A i k * B k j) (List.range k))) (nI k) = r (mP (iS (fun k => A i k * B k j) (List.range (k + 1)))) (nI (k + 1))
      rw [iS_range]
      generalize iS (fun k => A i k * B k j) (List.range k) = acc
      have i0 : zin (nI (20 * i + k)) (zL h r0) = true := by rw [l0]; exact zin_nI (by omega) (by omega)
      have i1 : zin (nI (20 * k + j)) (zL h r1) = true := by rw [l1]; exact zin_nI (by omega) (by omega)
      unfold gX1_multiplyRest_L3
      rw [if_neg (zge_n hk (by omega)), zob_s, nI_m20, wRJ_L, i0, zg_1, zob_s, nI_m20, wRJ_L, i1, zg_1, if_neg (show ¬ (1000000007 : Int64) = 0 by decide), zx_nI (show 20 * i + k < 2 ^ 31 by omega), zx_nI (show 20 * k + j < 2 ^ 31 by omega), wRJ_n _ _ _ _ _ n0, wRJ_n _ _ _ _ _ n1, hA i k hi hk, hB k j hk hj, tm_mac, zlt_, ← nI_sc]
    · intro r
      show gX1_multiplyRest_L3 (some r0) (some r1) (nI z) (nI i) (nI j) (wRJ h r2 f) K r _ (nI z) = _
      unfold gX1_multiplyRest_L3
      rw [if_pos (Int32.le_refl _)]
  have hl4 : ∀ (i : Nat), i < z → ∀ K : Zh → Option Zh, zlp (fun (_ : Int32) (_ : Zh) => (none : Option (Zh))) (gX1_multiplyRest_L4 (some r0) (some r1) (some r2) (nI z) (nI i) K) zFU 0 (wRJ h r2 (g i 0)) = K (wRJ h r2 (g (i + 1) 0)) := by
    intro i hi K
    have hh := zlp_it (R := Option Zh) (z := fun (_ : Int32) (_ : Zh) => (none : Option (Zh))) (F := gX1_multiplyRest_L4 (some r0) (some r1) (some r2) (nI z) (nI i) K) (fun j (F : Int32 → Zh → Option Zh) => F (nI j) (wRJ h r2 (g i j))) (K (wRJ h r2 (g i z))) z ?_ ?_ zFU (by unfold zFU; omega)
    · have e : g i z = g (i + 1) 0 := gr_r _ _ _
      rw [e] at hh
      exact hh
    · intro j hj rr
      have hs' : updJ (g i j) (20 * i + j) (V i j) = g i (j + 1) := gr_s _ _ hj hz
      have i2 : zin (nI (20 * i + j)) (zL h r2) = true := by rw [l2]; exact zin_nI (by omega) (by omega)
      show gX1_multiplyRest_L4 (some r0) (some r1) (some r2) (nI z) (nI i) K rr (nI j) (wRJ h r2 (g i j)) = rr (nI (j + 1)) (wRJ h r2 (g i (j + 1)))
      unfold gX1_multiplyRest_L4
      rw [if_neg (zge_n hj (by omega)), zjn_, hl3 i j hi hj]
      unfold gX1_multiplyRest_J2
      rw [zob_s, nI_m20, wRJ_L, i2, zg_1, zx_nI (show 20 * i + j < 2 ^ 31 by omega), zlt_, wRJ_s, hs', ← nI_sc]
    · intro rr
      show gX1_multiplyRest_L4 (some r0) (some r1) (some r2) (nI z) (nI i) K rr (nI z) _ = _
      unfold gX1_multiplyRest_L4
      rw [if_pos (Int32.le_refl _)]
  have hh := zlp_it (R := Option Zh) (z := fun (_ : Int32) (_ : Zh) => (none : Option (Zh))) (F := gX1_multiplyRest_L5 (some r0) (some r1) (some r2) (nI z)) (fun i (F : Int32 → Zh → Option Zh) => F (nI i) (wRJ h r2 (g i 0))) (some (wRJ h r2 (g z 0))) z ?_ ?_ zFU (by unfold zFU; omega)
  · have e : g 0 0 = zJ h r2 := grz_0 _ _
    rw [e, wRJ_self] at hh
    exact hh
  · intro i hi rr
    show gX1_multiplyRest_L5 (some r0) (some r1) (some r2) (nI z) rr (nI i) (wRJ h r2 (g i 0)) = rr (nI (i + 1)) (wRJ h r2 (g (i + 1) 0))
    unfold gX1_multiplyRest_L5
    rw [if_neg (zge_n hi (by omega)), zjn_, hl4 i hi]
    unfold gX1_multiplyRest_J1
    rw [← nI_sc]
  · intro rr
    show gX1_multiplyRest_L5 (some r0) (some r1) (some r2) (nI z) rr (nI z) _ = _
    unfold gX1_multiplyRest_L5
    rw [if_pos (Int32.le_refl _)]
/-- a row holds the block of a power -/
def hasP (h : Zh) (r : Nat) (w : Wt) (n u c : Nat) : Prop := ∀ i j, i < (msL n u).length → j < (msL n u).length → zJ h r (20 * i + j) = mP (vP (rA w n) (2 ^ n) ((msL n u).getD i 0) c ((msL n u).getD j 0))
theorem hasP_mul {h : Zh} {o : Nat → Nat} {s r0 r1 r2 : Nat} {w : Wt} {n u c d : Nat} (hn : n ≤ 6) (hu : u ≤ n) (l0 : zL h r0 = 400) (l1 : zL h r1 = 400) (l2 : zL h r2 = 400) (n0 : r0 ≠ r2) (n1 : r1 ≠ r2) (h0 : hasP h r0 w n u c) (h1 : hasP h r1 w n u d) (hs : s ≤ r2 ∧ r2 ≤ s + 9) : ∃ h', gX1_multiplyRest h (some r0) (some r1) (some r2) (nI (msL n u).length) = some h' ∧ icM s h h' ∧ hasP h' r2 w n u (c + d) ∧ ∀ b k, b ≠ r2 → zJ h' b k = zJ h b k := by
  refine ⟨_, multiplyRest_ok (ms_c hn hu).2.1 l0 l1 l2 n0 n1 h0 h1, icM.W _ _ _ hs, fun i j hi hj => ?_, fun b k hb => wRJ_n _ _ _ _ _ hb⟩
  obtain ⟨a1, a2, -⟩ := ms_at hn hi
  obtain ⟨b1, b2, -⟩ := ms_at hn hj
  rw [wRJ_e, gr_at _ _ hi hj (ms_c hn hu).2.1]
  refine congrArg mP ?_
  have e := vP_pr (w := w) hn a1 b1 c d
  rw [a2, ← iS_get] at e
  exact e
theorem hasP.mv {h h' : Zh} {r : Nat} {w : Wt} {n u c : Nat} (x : hasP h r w n u c) (e : ∀ k, zJ h' r k = zJ h r k) : hasP h' r w n u c := fun i j hi hj => (e _).trans (x i j hi hj)
theorem raised_ok {h : Zh} {o : Nat → Nat} {s : Nat} {w : Wt} {n u : Nat} (x : icS h o s) (hn : n ≤ 6) (hu : u ≤ n) (h1 : hasP h (s + 2) w n u 1) {c : Nat} (c1 : 1 ≤ c) (c4 : c ≤ 4) : ∃ h' r, gX1_raised h s (nI (msL n u).length) (nI c) = some (some r, h') ∧ icM s h h' ∧ hasP h' r w n u c ∧ hasP h' (s + 2) w n u 1 ∧ (r = s + 2 ∨ r = s + 3 ∨ r = s + 4) := by
  have R : ∀ {g : Zh}, icM s h g → (zR g s 1 = some (s + 2) ∧ zL g (s + 2) = 400) ∧ (zR g s 2 = some (s + 3) ∧ zL g (s + 3) = 400) ∧ (zR g s 3 = some (s + 4) ∧ zL g (s + 4) = 400) := fun {g} m => ⟨(x.mv m).2 1 (by omega), (x.mv m).2 2 (by omega), (x.mv m).2 3 (by omega)⟩
  obtain ⟨⟨r1, l1⟩, ⟨r2, l2⟩, ⟨r3, l3⟩⟩ := R (icM.rf s h)
  unfold gX1_raised
  by_cases e1 : c = 1
  · subst e1
    rw [if_pos (show nI 1 = 1 from rfl), zlt_, r1]
    exact ⟨h, s + 2, rfl, icM.rf s h, h1, h1, Or.inl rfl⟩
  · rw [if_neg (show ¬ nI c = 1 from fun hh => e1 ((nI_inj (b := 1) (by omega) (by omega)).mp hh)), zlt_, r1, zlt_, zlt_, r2]
    obtain ⟨g, a1, a2, a3, a4⟩ := hasP_mul (o := o) (s := s) hn hu l1 l1 l2 (by omega) (by omega) h1 h1 (by omega)
    have b1 : hasP g (s + 2) w n u 1 := h1.mv (fun k => a4 _ k (by omega))
    obtain ⟨⟨q1, k1⟩, ⟨q2, k2⟩, ⟨q3, k3⟩⟩ := R a2
    rw [a1, zbV_s]
    by_cases e2 : c = 2
    · subst e2
      rw [if_pos (show nI 2 = 2 from rfl), zlt_, q2]
      exact ⟨g, s + 3, rfl, a2, a3, b1, Or.inr (Or.inl rfl)⟩
    · rw [if_neg (show ¬ nI c = 2 from fun hh => e2 ((nI_inj (b := 2) (by omega) (by omega)).mp hh)), zlt_, q2, zjn_]
      by_cases e3 : c = 3
      · subst e3
        obtain ⟨g2, d1, d2, d3, d4⟩ := hasP_mul (o := o) (s := s) hn hu k2 k1 k3 (by omega) (by omega) a3 b1 (by omega)
        obtain ⟨-, -, ⟨y3, -⟩⟩ := R (a2.tr d2)
        rw [if_pos (show nI 3 = 3 from rfl), zlt_, q1]
        unfold gX1_raised_J1
        rw [zlt_, q3, d1, zbV_s, zlt_, y3]
        exact ⟨g2, s + 4, rfl, a2.tr d2, d3, b1.mv (fun k => d4 _ k (by omega)), Or.inr (Or.inr rfl)⟩
      · obtain ⟨g2, d1, d2, d3, d4⟩ := hasP_mul (o := o) (s := s) hn hu k2 k2 k3 (by omega) (by omega) a3 a3 (by omega)
        obtain ⟨-, -, ⟨y3, -⟩⟩ := R (a2.tr d2)
        have : c = 4 := by omega
        subst this
        rw [if_neg (show ¬ nI 4 = 3 by decide), zlt_]
        unfold gX1_raised_J1
        rw [zlt_, q3, d1, zbV_s, zlt_, y3]
        exact ⟨g2, s + 4, rfl, a2.tr d2, d3, b1.mv (fun k => d4 _ k (by omega)), Or.inr (Or.inr rfl)⟩
theorem half_fin : ∀ y, y < 9 → nI y / 2 = nI (y / 2) ∧ nI y - nI y / 2 * 2 = nI (y % 2) := by
  have h : (List.range 9).all (fun y => decide (nI y / 2 = nI (y / 2) ∧ nI y - nI y / 2 * 2 = nI (y % 2))) = true := by decide +kernel
  intro y hy
  exact of_decide_eq_true (List.all_eq_true.mp h y (List.mem_range.mpr hy))
theorem sm_i (F : Nat → Int) : ∀ k, k ≤ 20 → (sF (fun i => mP (F i)) (List.range k)).toInt = iS (fun i => F i % 1000000007) (List.range k) ∧ 0 ≤ iS (fun i => F i % 1000000007) (List.range k) ∧ iS (fun i => F i % 1000000007) (List.range k) ≤ k * 1000000007 ∧ iS (fun i => F i % 1000000007) (List.range k) % 1000000007 = iS F (List.range k) % 1000000007
  | 0, _ => ⟨rfl, Int.le_refl _, by show (0 : Int) ≤ (0 : Nat) * 1000000007; omega, rfl⟩
  | k + 1, hk => by
    obtain ⟨a1, a2, a3, a4⟩ := sm_i F k (by omega)
    rw [sF_range, iS_range, iS_range, Int64.toInt_add, a1, mP_i]
    refine ⟨bm63 (by omega) (by omega), by omega, by omega, by omega⟩
theorem diagonalOf_ok {h : Zh} {o : Nat → Nat} {s : Nat} {w : Wt} {n u : Nat} (x : icS h o s) (hn : n ≤ 6) (hu : u ≤ n) (h1 : hasP h (s + 2) w n u 1) {y : Nat} (y1 : 1 ≤ y) (y8 : y ≤ 8) : ∃ h', gX1_diagonalOf h s (nI (msL n u).length) (nI y) = some (mP (trB w n y u), h') ∧ icM s h h' := by
  have hz : (msL n u).length ≤ 20 := (ms_c hn hu).2.1
  unfold gX1_diagonalOf
  by_cases e1 : y = 1
  · subst e1
    refine ⟨h, ?_, icM.rf s h⟩
    obtain ⟨r1, l1⟩ : zR h s 1 = some (s + 2) ∧ zL h (s + 2) = 400 := x.2 1 (by omega)
    rw [if_pos (show nI 1 = 1 from rfl), zjn_]
    let F := fun i => vP (rA w n) (2 ^ n) ((msL n u).getD i 0) 1 ((msL n u).getD i 0)
    refine zlp_it (R := Option (Int64 × Zh)) (z := fun (_ : Int64) (_ : Int32) => (none : Option (Int64 × Zh))) (F := gX1_diagonalOf_L6 h s (nI (msL n u).length) (gX1_diagonalOf_J5 h)) (fun i (G : Int64 → Int32 → Option (Int64 × Zh)) => G (sF (fun i => mP (F i)) (List.range i)) (nI i)) _ (msL n u).length ?_ ?_ zFU (by unfold zFU; omega)
    · intro i hi r
      show gX1_diagonalOf_L6 h s (nI (msL n u).length) (gX1_diagonalOf_J5 h) r (sF (fun i => mP (F i)) (List.range i)) (nI i) = r (sF (fun i => mP (F i)) (List.range (i + 1))) (nI (i + 1))
      rw [sF_range]
      have ii : zin (nI (20 * i + i)) (zL h (s + 2)) = true := by rw [l1]; exact zin_nI (by omega) (by omega)
      unfold gX1_diagonalOf_L6
      rw [if_neg (zge_n hi (by omega)), zlt_, r1, zob_s, nI_m20, ii, zg_1, zx_nI (show 20 * i + i < 2 ^ 31 by omega), h1 i i hi hi, zlt_, ← nI_sc]
    · intro r
      show gX1_diagonalOf_L6 h s (nI (msL n u).length) (gX1_diagonalOf_J5 h) r (sF (fun i => mP (F i)) (List.range (msL n u).length)) (nI (msL n u).length) = _
      obtain ⟨a1, a2, a3, a4⟩ := sm_i F (msL n u).length hz
      unfold gX1_diagonalOf_L6
      rw [if_pos (Int32.le_refl _)]
      unfold gX1_diagonalOf_J5
      rw [if_neg (show ¬ (1000000007 : Int64) = 0 by decide), tm_pos (by rw [a1]; exact a2), a1, mP_cg a4]
      have := iS_get (fun s => vP (rA w n) (2 ^ n) s 1 s) (msL n u)
      rw [show iS F (List.range (msL n u).length) = trB w n 1 u from this]
  · obtain ⟨f1, f2⟩ := half_fin y (by omega)
    rw [if_neg (show ¬ nI y = 1 from fun hh => e1 ((nI_inj (b := 1) (by omega) (by omega)).mp hh)), if_neg (show ¬ (2 : Int32) = 0 by decide), f2, f1]
    obtain ⟨g, r, a1, a2, a3, a4, a5⟩ := raised_ok x hn hu h1 (c := y / 2) (by omega) (by omega)
    rw [a1, zbR_s, if_neg (show ¬ (2 : Int32) = 0 by decide), zjn_]
    have L : ∀ {g : Zh}, icM s h g → zL g r = 400 := fun {g} m => by
      rcases a5 with rfl | rfl | rfl
      · exact ((x.mv m).2 1 (by omega)).2
      · exact ((x.mv m).2 2 (by omega)).2
      · exact ((x.mv m).2 3 (by omega)).2
    have hfin : ∀ {g : Zh} {r' c d : Nat}, zL g r = 400 → zL g r' = 400 → hasP g r w n u c → hasP g r' w n u d → c + d = y → gX1_diagonalOf_J4 (nI (msL n u).length) (some r) (some r') g = some (mP (trB w n y u), g) := by
      intro g r' c d lr lr' p1 p2 hcd
      unfold gX1_diagonalOf_J4
      have hl2 : ∀ i, i < (msL n u).length → ∀ (acc : Int) (K : Int64 → Option (Int64 × Zh)), zlp (fun (_ : Int64) (_ : Int32) => (none : Option (Int64 × Zh))) (gX1_diagonalOf_L2 (nI (msL n u).length) (some r) (some r') g (nI i) K) zFU (mP acc) 0 = K (mP (acc + vP (rA w n) (2 ^ n) ((msL n u).getD i 0) y ((msL n u).getD i 0))) := by
        intro i hi acc K
        obtain ⟨b1, b2, -⟩ := ms_at hn hi
        have e := vP_pr (w := w) hn b1 b1 c d
        rw [b2, hcd, ← iS_get] at e
        have hh := zlp_it (R := Option (Int64 × Zh)) (z := fun (_ : Int64) (_ : Int32) => (none : Option (Int64 × Zh))) (F := gX1_diagonalOf_L2 (nI (msL n u).length) (some r) (some r') g (nI i) K) (fun j (G : Int64 → Int32 → Option (Int64 × Zh)) => G (mP (acc + iS (fun j => vP (rA w n) (2 ^ n) ((msL n u).getD i 0) c ((msL n u).getD j 0) * vP (rA w n) (2 ^ n) ((msL n u).getD j 0) d ((msL n u).getD i 0)) (List.range j))) (nI j)) (K (mP (acc + vP (rA w n) (2 ^ n) ((msL n u).getD i 0) y ((msL n u).getD i 0)))) (msL n u).length ?_ ?_ zFU (by unfold zFU; omega)
        · have e0 : acc + iS (fun j => vP (rA w n) (2 ^ n) ((msL n u).getD i 0) c ((msL n u).getD j 0) * vP (rA w n) (2 ^ n) ((msL n u).getD j 0) d ((msL n u).getD i 0)) (List.range 0) = acc := Int.add_zero acc
          rw [e0] at hh
          exact hh
        · intro j hj rr
          show gX1_diagonalOf_L2 (nI (msL n u).length) (some r) (some r') g (nI i) K rr (mP (acc + iS (fun j => vP (rA w n) (2 ^ n) ((msL n u).getD i 0) c ((msL n u).getD j 0) * vP (rA w n) (2 ^ n) ((msL n u).getD j 0) d ((msL n u).getD i 0)) (List.range j))) (nI j) = rr (mP (acc + iS (fun j => vP (rA w n) (2 ^ n) ((msL n u).getD i 0) c ((msL n u).getD j 0) * vP (rA w n) (2 ^ n) ((msL n u).getD j 0) d ((msL n u).getD i 0)) (List.range (j + 1)))) (nI (j + 1))
          rw [iS_range, ← Int.add_assoc]
          generalize acc + iS (fun j => vP (rA w n) (2 ^ n) ((msL n u).getD i 0) c ((msL n u).getD j 0) * vP (rA w n) (2 ^ n) ((msL n u).getD j 0) d ((msL n u).getD i 0)) (List.range j) = ac
          have i0 : zin (nI (20 * i + j)) (zL g r) = true := by rw [lr]; exact zin_nI (by omega) (by omega)
          have i1 : zin (nI (20 * j + i)) (zL g r') = true := by rw [lr']; exact zin_nI (by omega) (by omega)
          unfold gX1_diagonalOf_L2
          rw [if_neg (zge_n hj (by omega)), zob_s, nI_m20, i0, zg_1, zob_s, nI_m20, i1, zg_1, if_neg (show ¬ (1000000007 : Int64) = 0 by decide), zx_nI (show 20 * i + j < 2 ^ 31 by omega), zx_nI (show 20 * j + i < 2 ^ 31 by omega), p1 i j hi hj, p2 j i hj hi, tm_mac, zlt_, ← nI_sc]
        · intro rr
          show gX1_diagonalOf_L2 (nI (msL n u).length) (some r) (some r') g (nI i) K rr (mP (acc + iS (fun j => vP (rA w n) (2 ^ n) ((msL n u).getD i 0) c ((msL n u).getD j 0) * vP (rA w n) (2 ^ n) ((msL n u).getD j 0) d ((msL n u).getD i 0)) (List.range (msL n u).length))) (nI (msL n u).length) = _
          rw [e]
          unfold gX1_diagonalOf_L2
          rw [if_pos (Int32.le_refl _)]
      let F := fun i => vP (rA w n) (2 ^ n) ((msL n u).getD i 0) y ((msL n u).getD i 0)
      have hh := zlp_it (R := Option (Int64 × Zh)) (z := fun (_ : Int64) (_ : Int32) => (none : Option (Int64 × Zh))) (F := gX1_diagonalOf_L3 (nI (msL n u).length) (some r) (some r') g) (fun i (G : Int64 → Int32 → Option (Int64 × Zh)) => G (mP (iS F (List.range i))) (nI i)) (some (mP (trB w n y u), g)) (msL n u).length ?_ ?_ zFU (by unfold zFU; omega)
      · exact hh
      · intro i hi rr
        show gX1_diagonalOf_L3 (nI (msL n u).length) (some r) (some r') g rr (mP (iS F (List.range i))) (nI i) = rr (mP (iS F (List.range (i + 1)))) (nI (i + 1))
        rw [iS_range]
        unfold gX1_diagonalOf_L3
        rw [if_neg (zge_n hi (by omega)), zjn_, hl2 i hi]
        unfold gX1_diagonalOf_J1
        rw [← nI_sc]
      · intro rr
        show gX1_diagonalOf_L3 (nI (msL n u).length) (some r) (some r') g rr (mP (iS F (List.range (msL n u).length))) (nI (msL n u).length) = _
        have := iS_get (fun s => vP (rA w n) (2 ^ n) s y s) (msL n u)
        rw [show iS F (List.range (msL n u).length) = trB w n y u from this]
        unfold gX1_diagonalOf_L3
        rw [if_pos (Int32.le_refl _)]
    by_cases ho : y % 2 = 1
    · obtain ⟨q1, k1⟩ : zR g s 1 = some (s + 2) ∧ zL g (s + 2) = 400 := (x.mv a2).2 1 (by omega)
      obtain ⟨q4, k4⟩ : zR g s 4 = some (s + 5) ∧ zL g (s + 5) = 400 := (x.mv a2).2 4 (by omega)
      obtain ⟨g2, d1, d2, d3, d4⟩ := hasP_mul (o := o) (s := s) hn hu (L a2) k1 k4 (by omega) (by omega) a3 a4 (by omega)
      have m2 := a2.tr d2
      obtain ⟨q4', k4'⟩ : zR g2 s 4 = some (s + 5) ∧ zL g2 (s + 5) = 400 := (x.mv m2).2 4 (by omega)
      refine ⟨g2, ?_, m2⟩
      rw [if_pos (by rw [ho]; rfl), zlt_, q1, zlt_, q4, d1, zbV_s, zlt_, q4']
      exact hfin (L m2) k4' (a3.mv (fun k => d4 _ k (by omega))) d3 (by omega)
    · refine ⟨g, ?_, a2⟩
      rw [if_neg (show ¬ nI (y % 2) = 1 from fun hh => ho ((nI_inj (b := 1) (by omega) (by omega)).mp hh))]
      exact hfin (L a2) (L a2) a3 a3 (by omega)
theorem onRings_ok {h : Zh} {o : Nat → Nat} {s a k : Nat} {w : Wt} (x : icS h o s) (hv : wtOk w) (ha : a < s ∨ s + 9 < a) (xa : wtX h a k w) {n y : Nat} (h2 : 2 ≤ n) (hn : n ≤ 6) (y1 : 1 ≤ y) (y8 : y ≤ 8) : ∃ h', gX1_onRings h s (some a) (nI n) (nI y) = some ((mP (hlI n (trB w n y) (n / 2 + 1))).toInt32, h') ∧ icM s h h' := by
  unfold gX1_onRings
  rw [zjn_]
  let H := fun u => hlI n (fun u => trB w n y u % 1000000007) u
  have hb := fun u => hlI_b n (trB w n y) u
  have hgo : ∀ (d u : Nat) (g : Zh) (fu : Nat) (tot : Int64), u + d = n / 2 + 1 → d < fu → icM s h g → tot.toInt = H u → ∃ h', zlp (fun (_ : Int64) (_ : Int32) (_ : Zh) => (none : Option (Int32 × Zh))) (gX1_onRings_L6 s (some a) (nI n) (nI y) gX1_onRings_J1) fu tot (nI u) g = some ((mP (hlI n (trB w n y) (n / 2 + 1))).toInt32, h') ∧ icM s h h' := by
    intro d
    induction d with
    | zero =>
      intro u g fu tot hu hfu m ht
      have : u = n / 2 + 1 := by omega
      subst this
      obtain ⟨fu, rfl⟩ : ∃ f, fu = f + 1 := ⟨fu - 1, by omega⟩
      refine ⟨g, ?_, m⟩
      show gX1_onRings_L6 s (some a) (nI n) (nI y) gX1_onRings_J1 _ _ (nI (n / 2 + 1)) _ = _
      unfold gX1_onRings_L6
      have e : 2 * nI (n / 2 + 1) = nI (2 * (n / 2 + 1)) := by rw [nI_o 2, pk_mul]
      rw [e, if_pos (nI_lt (by omega) (by omega))]
      unfold gX1_onRings_J1
      rw [if_neg (show ¬ (1000000007 : Int64) = 0 by decide), tm_pos (by rw [ht]; exact (hb _).1), ht, mP_cg (hlI_m n (trB w n y) _)]
    | succ d ih =>
      intro u g fu tot hu hfu m ht
      obtain ⟨fu, rfl⟩ : ∃ f, fu = f + 1 := ⟨fu - 1, by omega⟩
      have hun : u ≤ n := by omega
      obtain ⟨g1, a1, a2, a3, a4⟩ := gather_ok (x.mv m) hn hun
      have m1 := m.tr a2
      have f1 := fillBlock_ok (x.mv m1) hv (xa.ic m1 ha) hn hun a4 (Or.inl rfl)
      have hz : (msL n u).length ≤ 20 := (ms_c hn hun).2.1
      have r1' : zR g1 s 1 = some (s + 2) := ((x.mv m1).2 1 (by omega)).1
      have l1 : zL g1 (s + 2) = 400 := ((x.mv m1).2 1 (by omega)).2
      let G0 := grF 20 (msL n u).length (blF n u w) (zJ g1 (s + 2)) (msL n u).length 0
      let V := fun i j => mP (vP (rA w n) (2 ^ n) ((msL n u).getD i 0) 1 ((msL n u).getD j 0))
      let G := fun i j => grF 20 (msL n u).length V G0 i j
      have hG0 : ∀ i j, i < (msL n u).length → j < (msL n u).length → G0 (20 * i + j) = blF n u w i j := fun i j hi hj => gr_at _ _ hi hj hz
      have hl4 : ∀ (i : Nat), i < (msL n u).length → ∀ K : Zh → Option (Int32 × Zh), zlp (fun (_ : Int32) (_ : Zh) => (none : Option (Int32 × Zh))) (gX1_onRings_L4 s (nI (msL n u).length) (nI i) K) zFU 0 (wRJ g1 (s + 2) (G i 0)) = K (wRJ g1 (s + 2) (G (i + 1) 0)) := by
        intro i hi K
        have hh := zlp_it (R := Option (Int32 × Zh)) (z := fun (_ : Int32) (_ : Zh) => (none : Option (Int32 × Zh))) (F := gX1_onRings_L4 s (nI (msL n u).length) (nI i) K) (fun j (F : Int32 → Zh → Option (Int32 × Zh)) => F (nI j) (wRJ g1 (s + 2) (G i j))) (K (wRJ g1 (s + 2) (G i (msL n u).length))) (msL n u).length ?_ ?_ zFU (by unfold zFU; omega)
        · have e : G i (msL n u).length = G (i + 1) 0 := gr_r _ _ _
          rw [e] at hh
          exact hh
        · intro j hj rr
          have hs' : updJ (G i j) (20 * i + j) (V i j) = G i (j + 1) := gr_s _ _ hj hz
          have hrd : G i j (20 * i + j) = blF n u w i j := (gr_now _ _ (by omega)).trans (hG0 i j hi hj)
          have hV : mP (blF n u w i j).toInt = V i j := congrArg mP (vP_1 (rA w n) (ms_at hn hi).1 _).symm
          have ii : zin (nI (20 * i + j)) (zL g1 (s + 2)) = true := by rw [l1]; exact zin_nI (by omega) (by omega)
          have rr1 : zR (wRJ g1 (s + 2) (G i j)) s 1 = some (s + 2) := r1'
          show gX1_onRings_L4 s (nI (msL n u).length) (nI i) K rr (nI j) (wRJ g1 (s + 2) (G i j)) = rr (nI (j + 1)) (wRJ g1 (s + 2) (G i (j + 1)))
          unfold gX1_onRings_L4
          rw [if_neg (zge_n hj (by omega)), zlt_, rr1, zlt_, zob_s, nI_m20, wRJ_L, ii, zg_1, zx_nI (show 20 * i + j < 2 ^ 31 by omega), wRJ_e, hrd, floorMod_ok, zbj_s, zob_s, wRJ_L, ii, zg_1, zlt_, hV, wRJ_s, hs', ← nI_sc]
        · intro rr
          show gX1_onRings_L4 s (nI (msL n u).length) (nI i) K rr (nI (msL n u).length) _ = _
          unfold gX1_onRings_L4
          rw [if_pos (Int32.le_refl _)]
      have hl5 : ∀ K : Zh → Option (Int32 × Zh), zlp (fun (_ : Int32) (_ : Zh) => (none : Option (Int32 × Zh))) (gX1_onRings_L5 s (nI (msL n u).length) K) zFU 0 (wRJ g1 (s + 2) G0) = K (wRJ g1 (s + 2) (G (msL n u).length 0)) := by
        intro K
        have hh := zlp_it (R := Option (Int32 × Zh)) (z := fun (_ : Int32) (_ : Zh) => (none : Option (Int32 × Zh))) (F := gX1_onRings_L5 s (nI (msL n u).length) K) (fun i (F : Int32 → Zh → Option (Int32 × Zh)) => F (nI i) (wRJ g1 (s + 2) (G i 0))) (K (wRJ g1 (s + 2) (G (msL n u).length 0))) (msL n u).length ?_ ?_ zFU (by unfold zFU; omega)
        · have e : G 0 0 = G0 := grz_0 _ _
          rw [e] at hh
          exact hh
        · intro i hi rr
          show gX1_onRings_L5 s (nI (msL n u).length) K rr (nI i) (wRJ g1 (s + 2) (G i 0)) = rr (nI (i + 1)) (wRJ g1 (s + 2) (G (i + 1) 0))
          unfold gX1_onRings_L5
          rw [if_neg (zge_n hi (by omega)), zjn_, hl4 i hi]
          unfold gX1_onRings_J3
          rw [← nI_sc]
        · intro rr
          show gX1_onRings_L5 s (nI (msL n u).length) K rr (nI (msL n u).length) _ = _
          unfold gX1_onRings_L5
          rw [if_pos (Int32.le_refl _)]
      have m2 : icM s h (wRJ g1 (s + 2) (G (msL n u).length 0)) := m1.tr (icM.W _ _ _ (by omega))
      have hP : hasP (wRJ g1 (s + 2) (G (msL n u).length 0)) (s + 2) w n u 1 := fun i j hi hj => by
        rw [wRJ_e]
        exact gr_at _ _ hi hj hz
      generalize wRJ g1 (s + 2) (G (msL n u).length 0) = g2 at hl5 m2 hP
      obtain ⟨g3, d1, d2⟩ := diagonalOf_ok (x.mv m2) hn hun hP y1 y8
      have hbu := hb u
      have ht3 : (tot + (nI (if 2 * u = n then 1 else 2)).toInt64 * mP (trB w n y u)).toInt = H (u + 1) := by
        have hc : (nI (if 2 * u = n then 1 else 2)).toInt64.toInt = (if 2 * u = n then 1 else 2) := by
          rw [Int32.toInt_toInt64]
          split <;> rfl
        have hH : H (u + 1) = H u + (if 2 * u = n then 1 else 2) * (trB w n y u % 1000000007) := rfl
        rw [Int64.toInt_add, Int64.toInt_mul, hc, mP_i, ht, hH]
        show ((hlI n (fun u => trB w n y u % 1000000007) u) + _ : Int).bmod (2 ^ 64) = hlI n (fun u => trB w n y u % 1000000007) u + _
        generalize hlI n (fun u => trB w n y u % 1000000007) u = q at hbu
        split
        · rw [bm63 (v := 1 * (trB w n y u % 1000000007)) (by omega) (by omega), bm63 (by omega) (by omega)]
        · rw [bm63 (v := 2 * (trB w n y u % 1000000007)) (by omega) (by omega), bm63 (by omega) (by omega)]
      obtain ⟨h', k1, k2⟩ := ih (u + 1) g3 fu _ (by omega) (by omega) (m2.tr d2) ht3
      refine ⟨h', ?_, k2⟩
      rw [← k1]
      show gX1_onRings_L6 s (some a) (nI n) (nI y) gX1_onRings_J1 _ _ (nI u) g = _
      generalize zlp (fun (_ : Int64) (_ : Int32) (_ : Zh) => (none : Option (Int32 × Zh))) (gX1_onRings_L6 s (some a) (nI n) (nI y) gX1_onRings_J1) fu = Z
      unfold gX1_onRings_L6
      have e : 2 * nI u = nI (2 * u) := by rw [nI_o 2, pk_mul]
      rw [e, if_neg (show ¬ nI n < nI (2 * u) from by rw [Int32.not_lt]; exact nI_le (by omega) (by omega)), a1, zbI_s, zlt_, r1', f1, zbV_s, zjn_, hl5]
      unfold gX1_onRings_J2
      rw [timesCounted_ok (by omega) (by omega), zbi_s, d1, zbJ_s, zlt_, ← nI_sc]
  exact hgo (n / 2 + 1) 0 h zFU 0 (by omega) (by unfold zFU; omega) (icM.rf s h) rfl
section Ops
variable {SC : Ch → (Nat → Nat → Int32) → (Nat → Nat → Int64) → Prop} {h h' : Zh} {o o' : Nat → Nat} {L : Led} {n : Nat} {w : Nat → Wt} {S : Nat → Option Sh} {fa tr : Int32} {I : Nat → Nat → Int32} {J : Nat → Nat → Int64}
theorem ice_st (p : stX SC h o L n w S fa tr) (q : stM I L n w S fa tr) (hst : stOk L n w S) (x1 x2 x3 : Int32) : stG SC (gX11_ice h 0 x1 x2 x3) (gX12_ice (mH I J) 0 x1 x2 x3) h := by
  have hn := hst.2.1.1
  unfold gX11_ice gX12_ice
  rw [noWeightsM q.2.1 hn, zbi_s]
  by_cases h1 : inR x1 n
  · rw [if_pos h1, if_pos rfl, in_ii, show (2 : Int64).toInt = 2 from rfl, show (6 : Int64).toInt = 6 from rfl, zbi_s]
    obtain ⟨k, hk, rfl⟩ := inR_f h1
    obtain ⟨a, a1, a2, a3⟩ := weightsAt_s p hn hk
    rw [a1, zbr_s, zcs_s, noRowX, zbi_s, zjn_]
    by_cases h2 : in26 x2
    · rw [if_pos h2, if_pos h2, if_pos rfl, if_neg (show ¬ (1 : Int32) = 0 by decide), in_ii, show (1 : Int64).toInt = 1 from rfl, show (8 : Int64).toInt = 8 from rfl, zbi_s]
      obtain ⟨m, hm, rfl⟩ := inR_f (x := x2) (n := 7) (by omega)
      have hm2 : 2 ≤ m := by have := h2.1; rw [nI_int (by omega)] at this; omega
      have e1 : x3 < 1 ↔ x3.toInt < 1 := Int32.lt_iff_toInt_lt
      have e2 : x3 ≤ 8 ↔ x3.toInt ≤ 8 := Int32.le_iff_toInt_le
      by_cases h3 : 1 ≤ x3.toInt ∧ x3.toInt ≤ 8
      · rw [if_pos h3, if_neg (show ¬ (1 : Int32) = 0 by decide), if_neg (fun hh => by have := e1.mp hh; omega), if_pos (e2.mpr h3.2)]
        obtain ⟨y, hy, rfl⟩ := inR_f (x := x3) (n := 9) (by unfold inR; omega)
        have hy1 : 1 ≤ y := by have := h3.1; rw [nI_int (by omega)] at this; omega
        obtain ⟨h1', o1, s, g1, p1, e7, hx1, mw, bN, bS⟩ := iceRows_ok p
        have a2' := a2.mv mw
        obtain ⟨h2', g2, m2⟩ := onRings_ok hx1 (hst.2.1.2 k hk) (a2'.off hx1) (a3.mv mw (by omega) a2) hm2 (show m ≤ 6 by omega) hy1 (show y ≤ 8 by omega)
        have h64 : 2 ^ m ≤ 2 ^ 6 := Nat.pow_le_pow_right (by decide) (by omega)
        have t1 := layRows_ok J q.2.1 hn hk (show m ≤ 6 by omega) true
        have t1' : gX12_layRows (mH I J) 0 (nI k) (nI m) 1 = _ := t1
        obtain ⟨J', t2⟩ := iceM (I := I) (zW J 18 (grF 64 (2 ^ m) (rowN (w k) m) (J 18) (2 ^ m) 0)) (w := w k) (show m ≤ 6 by omega) (show y ≤ 8 by omega) (fun s t hs ht => by rw [zW_e, gr_at _ _ hs ht (by omega)])
        have p2 := stX_ice (m2.mv (fun a ha => (hx1.1 a ha).2)) e7 (hx1.mv m2) p1
        obtain ⟨sh, -, -⟩ := shl_fin m (by omega)
        rw [tr_all hm2 (by omega)] at t2
        rw [g1, zbR_s, zob_s, g2, zbI_s, t1', zbV_s, zlt_, sh, zjn_]
        exact ⟨_, h2', I, J', o1, L, n, w, S, fa, tr, rfl, t2, p2, q, hst, by have := m2.1.1; omega, by have := m2.1.2; omega⟩
      · rw [if_neg h3, if_pos rfl]
        by_cases h4 : x3 < 1
        · rw [if_pos h4]
          exact stG_0 p q hst _
        · rw [if_neg h4, if_neg (fun hh => h3 ⟨Int.not_lt.mp (fun hh => h4 (e1.mpr hh)), e2.mp hh⟩)]
          exact stG_0 p q hst _
    · rw [if_neg h2, if_neg h2, if_neg (by decide), if_pos rfl]
      exact stG_0 p q hst _
  · rw [if_neg h1, if_neg (by decide), weightsAt_n p hn x1 h1, zbr_s, zcs_n]
    exact stG_0 p q hst _
end Ops
