/-! numbers mod the prime -/
theorem bm63 {v : Int} (h1 : -9223372036854775808 ≤ v) (h2 : v < 9223372036854775808) : v.bmod (2 ^ 64) = v := Int.bmod_eq_of_le (by omega) (by omega)
theorem tm_ok (x : Int64) : (x - x / 1000000007 * 1000000007).toInt = if 0 ≤ x.toInt then x.toInt % 1000000007 else -((-x.toInt) % 1000000007) := by
  have hx1 : -9223372036854775808 ≤ x.toInt := x.le_toInt
  have hx2 : x.toInt < 9223372036854775808 := x.toInt_lt
  rw [Int64.toInt_sub, Int64.toInt_mul, Int64.toInt_div, show (1000000007 : Int64).toInt = 1000000007 from rfl]
  generalize x.toInt = X at *
  by_cases h : 0 ≤ X
  · rw [if_pos h, Int.tdiv_eq_ediv_of_nonneg h, bm63 (v := X / 1000000007) (by omega) (by omega), bm63 (v := X / 1000000007 * 1000000007) (by omega) (by omega), bm63 (by omega) (by omega)]
    omega
  · have e : X.tdiv 1000000007 = -((-X) / 1000000007) := by
      have h1 : X.tdiv 1000000007 = -((-X).tdiv 1000000007) := by rw [Int.neg_tdiv, Int.neg_neg]
      rw [h1, Int.tdiv_eq_ediv_of_nonneg (a := -X) (by omega)]
    rw [if_neg h, e, bm63 (v := -(-X / 1000000007)) (by omega) (by omega), bm63 (v := -(-X / 1000000007) * 1000000007) (by omega) (by omega), bm63 (by omega) (by omega)]
    omega
def mP (v : Int) : Int64 := Int64.ofInt (v % 1000000007)
theorem mP_i (v : Int) : (mP v).toInt = v % 1000000007 := by
  unfold mP
  rw [Int64.toInt_ofInt]
  exact bm63 (by omega) (by omega)
theorem mP_of {x : Int64} {v : Int} (h : x.toInt = v % 1000000007) : x = mP v := Int64.toInt_inj.mp (h.trans (mP_i v).symm)
theorem mP_cg {u v : Int} (h : u % 1000000007 = v % 1000000007) : mP u = mP v := by unfold mP; rw [h]
theorem mP_0 : mP 0 = 0 := by decide +kernel
theorem mP_1 : mP 1 = 1 := by decide +kernel
/-- a rest of a number that isn't below 0 -/
theorem tm_pos {x : Int64} (h : 0 ≤ x.toInt) : x - x / 1000000007 * 1000000007 = mP x.toInt := mP_of (by rw [tm_ok, if_pos h])
theorem restBy_ok (x : Int64) : gX12_restBy x = some (mP x.toInt) := by
  unfold gX12_restBy
  rw [if_neg (by decide), if_neg (by decide)]
  refine congrArg some ?_
  have hp : (1000000007 : Int64).toInt = 1000000007 := rfl
  have e : (x - x / 1000000007 * 1000000007 + 1000000007).toInt = (if 0 ≤ x.toInt then x.toInt % 1000000007 else -((-x.toInt) % 1000000007)) + 1000000007 := by
    rw [Int64.toInt_add, tm_ok, hp]
    exact bm63 (by split <;> omega) (by split <;> omega)
  rw [tm_pos (by rw [e]; split <;> omega)]
  apply mP_cg
  rw [e]
  split <;> omega
theorem xorS (x : Int64) : (x ^^^ 1000000007 < 0) ↔ x.toInt < 0 := by
  rw [Int64.lt_iff_toInt_lt]
  have e1 : (x ^^^ 1000000007).toInt = (x.toBitVec ^^^ (1000000007 : Int64).toBitVec).toInt := rfl
  have e2 : x.toInt = x.toBitVec.toInt := rfl
  have e3 : (0 : Int64).toInt = 0 := rfl
  have m1 := BitVec.msb_eq_toInt (x := x.toBitVec ^^^ (1000000007 : Int64).toBitVec)
  have m2 := BitVec.msb_eq_toInt (x := x.toBitVec)
  rw [BitVec.msb_xor, show ((1000000007 : Int64).toBitVec).msb = false by decide, Bool.xor_false, m2] at m1
  rw [e1, e2, e3]
  have := congrArg (· = true) m1
  simp only [decide_eq_true_eq] at this
  exact Iff.of_eq this.symm
theorem floorMod_ok (x : Int64) : gJ9_floorMod_f86c9 x 1000000007 = some (mP x.toInt) := by
  unfold gJ9_floorMod_f86c9
  have hp : (1000000007 : Int64).toInt = 1000000007 := rfl
  have hx1 : -9223372036854775808 ≤ x.toInt := x.le_toInt
  have ht := tm_ok x
  rw [if_neg (by decide), zlt_]
  by_cases h : x.toInt < 0
  · have hl : lg_cmp (x ^^^ 1000000007) 0 < 0 := (lg_cmp_lt _ _).mpr ((xorS x).mpr h)
    rw [if_neg (fun hh => by have := Int32.not_lt.mpr hh; exact this hl)]
    rw [if_neg (by omega)] at ht
    by_cases h0 : x - x / 1000000007 * 1000000007 = 0
    · rw [if_pos ((cmp0 _).mpr h0)]
      refine congrArg some ?_
      apply mP_of
      rw [h0] at ht ⊢
      have h00 : (0 : Int64).toInt = 0 := rfl
      rw [h00] at ht ⊢
      omega
    · rw [if_neg (fun hh => h0 ((cmp0 _).mp hh))]
      refine congrArg some ?_
      have hne : (x - x / 1000000007 * 1000000007).toInt ≠ 0 := fun e => h0 (Int64.toInt_inj.mp (e.trans (show (0 : Int) = (0 : Int64).toInt from rfl)))
      rw [ht] at hne
      apply mP_of
      rw [Int64.toInt_add, ht, hp, bm63 (by omega) (by omega)]
      omega
  · have hl : ¬ lg_cmp (x ^^^ 1000000007) 0 < 0 := fun hh => h ((xorS x).mp ((lg_cmp_lt _ _).mp hh))
    rw [if_pos (Int32.not_lt.mp hl), tm_pos (by omega)]
theorem mul_b {a b A B : Int} (ha : a.natAbs ≤ A.toNat) (hb : b.natAbs ≤ B.toNat) : (a * b).natAbs ≤ A.toNat * B.toNat := by
  rw [Int.natAbs_mul]
  exact Nat.mul_le_mul ha hb
theorem mac_i (x u : Int) {a : Int64} (ha : a.toInt.natAbs ≤ 1000000007) : (mP x + mP u * a).toInt = x % 1000000007 + u % 1000000007 * a.toInt := by
  have hb : (u % 1000000007 * a.toInt).natAbs ≤ 1000000007 * 1000000007 := by
    rw [Int.natAbs_mul]
    exact Nat.mul_le_mul (by omega) ha
  rw [Int64.toInt_add, Int64.toInt_mul, mP_i, mP_i]
  generalize u % 1000000007 * a.toInt = Y at *
  rw [bm63 (v := Y) (by omega) (by omega)]
  exact bm63 (by omega) (by omega)
theorem mac_e (x u a : Int) : (x % 1000000007 + u % 1000000007 * a) % 1000000007 = (x + u * a) % 1000000007 := by
  rw [Int.add_emod, Int.emod_emod, Int.mul_emod, Int.emod_emod, ← Int.mul_emod, ← Int.add_emod]
theorem mac_P (x u a : Int) : (x % 1000000007 + u % 1000000007 * (a % 1000000007)) % 1000000007 = (x + u * a) % 1000000007 := by
  rw [Int.add_emod, Int.emod_emod, Int.mul_emod, Int.emod_emod, Int.emod_emod, ← Int.mul_emod, ← Int.add_emod]
theorem mP_b (a : Int) : (mP a).toInt.natAbs ≤ 1000000007 := by rw [mP_i]; omega
theorem restBy_mac (x u a : Int) : gX12_restBy (mP x + mP u * mP a) = some (mP (x + u * a)) := by
  rw [restBy_ok]
  refine congrArg some ?_
  apply mP_cg
  rw [mac_i x u (mP_b a), mP_i, mac_P]
theorem floorMod_mac (x u : Int) {a : Int64} (ha : a.toInt.natAbs ≤ 1000000007) : gJ9_floorMod_f86c9 (mP x + mP u * a) 1000000007 = some (mP (x + u * a.toInt)) := by
  rw [floorMod_ok]
  refine congrArg some ?_
  apply mP_cg
  rw [mac_i x u ha, mac_e]
theorem tm_mac (x u a : Int) : (mP x + mP u * mP a) - (mP x + mP u * mP a) / 1000000007 * 1000000007 = mP (x + u * a) := by
  have e : (mP x + mP u * mP a).toInt = x % 1000000007 + u % 1000000007 * (a % 1000000007) := by rw [mac_i x u (mP_b a), mP_i]
  have h0 : 0 ≤ x % 1000000007 := Int.emod_nonneg _ (by decide)
  have h1 : 0 ≤ u % 1000000007 * (a % 1000000007) := Int.mul_nonneg (Int.emod_nonneg _ (by decide)) (Int.emod_nonneg _ (by decide))
  rw [tm_pos (by rw [e]; omega)]
  apply mP_cg
  rw [e, mac_P]
/-! bounds of what stands along a row -/
theorem crN_b {w : Wt} (hv : wtOk w) (l u r o : Nat) : (crN w l u r o).toInt64.toInt.natAbs ≤ 9 := by
  rw [Int32.toInt_toInt64]
  obtain ⟨-, b1, b2, b3⟩ := hv
  have h0 : (0 : Int32).toInt = 0 := rfl
  unfold crN
  split
  · split <;> omega
  · split
    · omega
    · rw [h0]; decide
theorem pair_b {x y c d : Int64} {B : Nat} (hB : B ≤ 43046721) (hxy : x = 0 ∨ y = 0) (hx : x.toInt.natAbs ≤ B) (hy : y.toInt.natAbs ≤ B) (hc : c.toInt.natAbs ≤ 9) (hd : d.toInt.natAbs ≤ 9) : (x * c + y * d).toInt.natAbs ≤ B * 9 := by
  have key : ∀ {x c : Int64}, x.toInt.natAbs ≤ B → c.toInt.natAbs ≤ 9 → (x * c).toInt.natAbs ≤ B * 9 := fun {x c} hx hc => by
    have hb : (x.toInt * c.toInt).natAbs ≤ B * 9 := by rw [Int.natAbs_mul]; exact Nat.mul_le_mul hx hc
    rw [Int64.toInt_mul]
    generalize x.toInt * c.toInt = Y at *
    rw [bm63 (by omega) (by omega)]
    exact hb
  rcases hxy with rfl | rfl
  · have e : 0 * c + y * d = y * d := by grind
    rw [e]; exact key hy hd
  · have e : x * c + 0 * d = x * c := by grind
    rw [e]; exact key hx hc
theorem zo_b {w : Wt} (hv : wtOk w) (s t f : Nat) : ∀ p, p ≤ 8 → (zo w s t f p).1.toInt.natAbs ≤ 9 ^ p ∧ (zo w s t f p).2.toInt.natAbs ≤ 9 ^ p
  | 0, _ => by
    have h0 : (0 : Int64).toInt.natAbs = 0 := rfl
    have h1 : (1 : Int64).toInt.natAbs = 1 := rfl
    show (if f = 0 then (1 : Int64) else 0).toInt.natAbs ≤ 1 ∧ (if f = 1 then (1 : Int64) else 0).toInt.natAbs ≤ 1
    refine ⟨by split <;> omega, by split <;> omega⟩
  | p + 1, hp => by
    obtain ⟨i1, i2⟩ := zo_b hv s t f p (by omega)
    have hB : 9 ^ p ≤ 43046721 := Nat.le_trans (Nat.pow_le_pow_right (by decide) (show p ≤ 8 by omega)) (by decide)
    have hxy : (zo w s t f p).1 = 0 ∨ (zo w s t f p).2 = 0 := by
      obtain ⟨c1, c2⟩ := zo_cons w s t f p
      by_cases h : f + pS s p = pS t p
      · exact Or.inr (c2 (by omega))
      · exact Or.inl (c1 h)
    exact ⟨by rw [Nat.pow_succ]; exact pair_b hB hxy i1 i2 (crN_b hv _ _ _ _) (crN_b hv _ _ _ _), by rw [Nat.pow_succ]; exact pair_b hB hxy i1 i2 (crN_b hv _ _ _ _) (crN_b hv _ _ _ _)⟩
theorem alN_b {w : Wt} (hv : wtOk w) {n : Nat} (hn : n ≤ 8) (s t f g : Nat) : (alN w n s t f g).toInt.natAbs ≤ 43046721 := by
  obtain ⟨a, b⟩ := zo_b hv s t f n hn
  have hB : 9 ^ n ≤ 43046721 := Nat.le_trans (Nat.pow_le_pow_right (by decide) hn) (by decide)
  unfold alN
  split <;> omega
/-! sums of whole numbers -/
def iS (F : Nat → Int) : List Nat → Int
  | [] => 0
  | x :: l => F x + iS F l
theorem iS_app (F : Nat → Int) : ∀ (a b : List Nat), iS F (a ++ b) = iS F a + iS F b
  | [], b => by show iS F b = 0 + iS F b; omega
  | x :: a, b => by
    show F x + iS F (a ++ b) = F x + iS F a + iS F b
    rw [iS_app F a b]; omega
theorem iS_range (F : Nat → Int) (m : Nat) : iS F (List.range (m + 1)) = iS F (List.range m) + F m := by
  rw [List.range_succ, iS_app]
  show _ + (F m + 0) = _
  omega
theorem iS_cg {F G : Nat → Int} : ∀ l : List Nat, (∀ x ∈ l, F x = G x) → iS F l = iS G l
  | [], _ => rfl
  | x :: l, h => by
    show F x + iS F l = G x + iS G l
    rw [h x List.mem_cons_self, iS_cg l (fun y hy => h y (List.mem_cons_of_mem _ hy))]
theorem iS_0 : ∀ l : List Nat, iS (fun _ => 0) l = 0
  | [] => rfl
  | x :: l => by show 0 + iS (fun _ => 0) l = 0; rw [iS_0 l]; rfl
theorem iS_z {F : Nat → Int} (l : List Nat) (h : ∀ x ∈ l, F x = 0) : iS F l = 0 := (iS_cg l h).trans (iS_0 l)
/-- a row times a table -/
def vS (A : Nat → Nat → Int) (z : Nat) (v : Nat → Int) : Nat → Int := fun t => iS (fun s => v s * A s t) (List.range z)
def vP (A : Nat → Nat → Int) (z s : Nat) : Nat → Nat → Int
  | 0 => fun t => if t = s then 1 else 0
  | r + 1 => vS A z (vP A z s r)
theorem updJ2 (f : Nat → Int64) (k : Nat) (a b : Int64) : updJ (updJ f k a) k b = updJ f k b := by
  funext y
  unfold updJ
  by_cases h : y = k
  · rw [if_pos h, if_pos h]
  · rw [if_neg h, if_neg h, if_neg h]
theorem updJ_e (f : Nat → Int64) (k : Nat) (a : Int64) : updJ f k a k = a := if_pos rfl
theorem wallsStep {I : Nat → Nat → Int32} (J : Nat → Nat → Int64) {n : Nat} {w : Nat → Wt} (q : weiM I n w) (hn : n ≤ 6) {k : Nat} (hk : k < n) {m : Nat} (hm : m ≤ 6) {v : Nat → Int} (hv : ∀ t, t < 2 ^ m → J 11 t = mP (v t)) (K : Zh → Option (Int32 × Zh)) : zlp (fun (_ : Int32) (_ : Zh) => (none : Option (Int32 × Zh))) (gX12_walls_L7 0 (nI k) (nI m) (nI (2 ^ m)) K) zFU 0 (mH I J) = K (mH I (zW J 12 (cpJ (J 12) (fun t => mP (vS (fun s t => (alN (w k) m s t 1 0).toInt) (2 ^ m) v t)) (2 ^ m)))) := by
  have h64 : 2 ^ m ≤ 2 ^ 6 := Nat.pow_le_pow_right (by decide) hm
  generalize hA : (fun s t => (alN (w k) m s t 1 0).toInt) = A
  generalize hz : 2 ^ m = z at *
  let g := fun t => mP (vS A z v t)
  have hl6 : ∀ t, t < z → ∀ (f : Nat → Int64) (K : Zh → Option (Int32 × Zh)), zlp (fun (_ : Int32) (_ : Zh) => (none : Option (Int32 × Zh))) (gX12_walls_L6 0 (nI k) (nI m) (nI z) (nI t) K) zFU 0 (mH I (zW J 12 (updJ f t 0))) = K (mH I (zW J 12 (updJ f t (g t)))) := by
    intro t ht f K
    have hh := zlp_it (R := Option (Int32 × Zh)) (z := fun (_ : Int32) (_ : Zh) => (none : Option (Int32 × Zh))) (F := gX12_walls_L6 0 (nI k) (nI m) (nI z) (nI t) K) (fun s (F : Int32 → Zh → Option (Int32 × Zh)) => F (nI s) (mH I (zW J 12 (updJ f t (mP (iS (fun s => v s * A s t) (List.range s))))))) (K (mH I (zW J 12 (updJ f t (g t))))) z ?_ ?_ zFU (by unfold zFU; omega)
    · have e0 : mP (iS (fun s => v s * A s t) (List.range 0)) = 0 := mP_0
      rw [e0] at hh
      exact hh
    · intro s hs r
      show gX12_walls_L6 0 (nI k) (nI m) (nI z) (nI t) K r (nI s) (mH I (zW J 12 (updJ f t (mP (iS (fun s => v s * A s t) (List.range s)))))) = r (nI (s + 1)) (mH I (zW J 12 (updJ f t (mP (iS (fun s => v s * A s t) (List.range (s + 1)))))))
      rw [iS_range]
      generalize iS (fun s => v s * A s t) (List.range s) = acc
      have hal : gX12_along (mH I (zW J 12 (updJ f t (mP acc)))) 0 (nI k) (nI m) (nI s) (nI t) 1 0 = _ := alongM (zW J 12 (updJ f t (mP acc))) q hn hk (show m ≤ 8 by omega) (s := s) (t := t) (f := 1) (g := 0) (by omega) (by omega) (by omega) (by omega)
      have h11 : zW J 12 (updJ f t (mP acc)) 11 s = mP (v s) := by rw [zW_n _ _ _ _ (by decide)]; exact hv s hs
      have h12 : zW J 12 (updJ f t (mP acc)) 12 t = mP acc := by rw [zW_e, updJ_e]
      have hA' : (alN (w k) m s t 1 0).toInt = A s t := congrFun (congrFun hA s) t
      unfold gX12_walls_L6
      rw [if_neg (zge_n hs (by omega))]
      repeat (first | rw [mR_16] | rw [mR_17] | rw [min_ (mL_12 _ _) (show t < 256 by omega) (by omega)] | rw [min_ (mL_11 _ _) (show s < 256 by omega) (by omega)] | rw [zx_nI (show s < 2 ^ 31 by omega)] | rw [zx_nI (show t < 2 ^ 31 by omega)] | rw [mJ_] | rw [hal] | rw [restBy_ok (alN (w k) m s t 1 0)] | rw [hA'] | rw [h11] | rw [h12] | rw [restBy_mac] | rw [msJ] | rw [zW_J] | rw [updJ2] | rw [← nI_sc] | rw [zlt_] | rw [zjn_] | rw [zob_s] | rw [zg_1] | rw [zbi_s] | rw [zbI_s] | rw [zbr_s] | rw [zbR_s] | rw [zbV_s] | rw [zbj_s] | rw [zbJ_s] | rw [zcs_s] | rw [zcs_n])
    · intro r
      show gX12_walls_L6 0 (nI k) (nI m) (nI z) (nI t) K r (nI z) _ = _
      unfold gX12_walls_L6
      rw [if_pos (Int32.le_refl _)]
      rfl
  have hh := zlp_it (R := Option (Int32 × Zh)) (z := fun (_ : Int32) (_ : Zh) => (none : Option (Int32 × Zh))) (F := gX12_walls_L7 0 (nI k) (nI m) (nI z) K) (fun t (F : Int32 → Zh → Option (Int32 × Zh)) => F (nI t) (mH I (zW J 12 (cpJ (J 12) g t)))) (K (mH I (zW J 12 (cpJ (J 12) g z)))) z ?_ ?_ zFU (by unfold zFU; omega)
  · rw [cpJ_0, zW_self] at hh
    exact hh
  · intro t ht r
    show gX12_walls_L7 0 (nI k) (nI m) (nI z) K r (nI t) (mH I (zW J 12 (cpJ (J 12) g t))) = r (nI (t + 1)) (mH I (zW J 12 (cpJ (J 12) g (t + 1))))
    unfold gX12_walls_L7
    rw [if_neg (zge_n ht (by omega))]
    repeat (first | rw [mR_17] | rw [min_ (mL_12 _ _) (show t < 256 by omega) (by omega)] | rw [zx_nI (show t < 2 ^ 31 by omega)] | rw [msJ] | rw [zW_J] | rw [zlt_] | rw [zjn_] | rw [zob_s] | rw [zg_1] | rw [zbi_s] | rw [zbI_s] | rw [zbr_s] | rw [zbR_s] | rw [zbV_s] | rw [zbj_s] | rw [zbJ_s] | rw [zcs_s] | rw [zcs_n])
    rw [hl6 t ht, cpJ_s]
    unfold gX12_walls_J5
    rw [← nI_sc]
  · intro r
    show gX12_walls_L7 0 (nI k) (nI m) (nI z) K r (nI z) _ = _
    unfold gX12_walls_L7
    rw [if_pos (Int32.le_refl _)]
