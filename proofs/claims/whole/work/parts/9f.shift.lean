/-! the polynomial of x + c: exact integers, as the class holds them and as the reference holds them -/
abbrev oI (v : Int) : Int64 := Int64.ofInt v
theorem oI_i {v : Int} (h1 : -9223372036854775808 ≤ v) (h2 : v < 9223372036854775808) : (oI v).toInt = v := Int64.toInt_ofInt.trans (bm63 h1 h2)
theorem oI_t (x : Int64) : oI x.toInt = x := Int64.toInt_inj.mp (oI_i x.le_toInt x.toInt_lt)
theorem oI_c (x : Int32) : x.toInt64 = oI x.toInt := Int64.toInt_inj.mp (by
  have h1 := x.le_toInt
  have h2 := x.toInt_lt
  rw [Int32.toInt_toInt64, oI_i (by omega) (by omega)])
theorem oI_add (a b : Int) : oI (a + b) = oI a + oI b := Int64.ofInt_add a b
theorem oI_mul (a b : Int) : oI (a * b) = oI a * oI b := Int64.ofInt_mul a b
def lO (a : Int) : Int64 := oI (a % 1099511627776)
def uO (a : Int) : Int64 := oI (a / 1099511627776)
theorem lO_i (a : Int) : (lO a).toInt = a % 1099511627776 := oI_i (by omega) (by omega)
theorem uO_i {a : Int} (h : a.natAbs ≤ 1000000000000000000000) : (uO a).toInt = a / 1099511627776 := oI_i (by omega) (by omega)
theorem tmP (x : Int64) : (x - x / 1099511627776 * 1099511627776).toInt = if 0 ≤ x.toInt then x.toInt % 1099511627776 else -((-x.toInt) % 1099511627776) := by
  have hx1 : -9223372036854775808 ≤ x.toInt := x.le_toInt
  have hx2 : x.toInt < 9223372036854775808 := x.toInt_lt
  rw [Int64.toInt_sub, Int64.toInt_mul, Int64.toInt_div, show (1099511627776 : Int64).toInt = 1099511627776 from rfl]
  generalize x.toInt = X at *
  by_cases h : 0 ≤ X
  · rw [if_pos h, Int.tdiv_eq_ediv_of_nonneg h, bm63 (v := X / 1099511627776) (by omega) (by omega), bm63 (v := X / 1099511627776 * 1099511627776) (by omega) (by omega), bm63 (by omega) (by omega)]
    omega
  · have e : X.tdiv 1099511627776 = -((-X) / 1099511627776) := by
      have h1 : X.tdiv 1099511627776 = -((-X).tdiv 1099511627776) := by rw [Int.neg_tdiv, Int.neg_neg]
      rw [h1, Int.tdiv_eq_ediv_of_nonneg (a := -X) (by omega)]
    rw [if_neg h, e, bm63 (v := -(-X / 1099511627776)) (by omega) (by omega), bm63 (v := -(-X / 1099511627776) * 1099511627776) (by omega) (by omega), bm63 (by omega) (by omega)]
    omega
theorem emP (x : Int64) : ((x - x / 1099511627776 * 1099511627776) + 1099511627776) - ((x - x / 1099511627776 * 1099511627776) + 1099511627776) / 1099511627776 * 1099511627776 = lO x.toInt := by
  have ht := tmP x
  generalize hy : x - x / 1099511627776 * 1099511627776 = y at *
  have hy1 : -1099511627776 < y.toInt ∧ y.toInt < 1099511627776 := by
    rw [ht]
    by_cases h : 0 ≤ x.toInt
    · rw [if_pos h]; omega
    · rw [if_neg h]; omega
  have h2 : (y + 1099511627776).toInt = y.toInt + 1099511627776 := by
    rw [Int64.toInt_add, show (1099511627776 : Int64).toInt = 1099511627776 from rfl]
    exact bm63 (by omega) (by omega)
  apply Int64.toInt_inj.mp
  rw [tmP, h2, lO_i, if_pos (by omega), ht]
  by_cases h : 0 ≤ x.toInt
  · rw [if_pos h]; omega
  · rw [if_neg h]; omega
theorem hiP {x : Int64} (hx : x.toInt.natAbs ≤ 4611686018427387904) : (x - lO x.toInt) / 1099511627776 = uO x.toInt := by
  have h1 : (x - lO x.toInt).toInt = x.toInt / 1099511627776 * 1099511627776 := by
    rw [Int64.toInt_sub, lO_i, bm63 (by omega) (by omega)]
    omega
  apply Int64.toInt_inj.mp
  rw [Int64.toInt_div, h1, uO_i (by omega), show (1099511627776 : Int64).toInt = 1099511627776 from rfl, Int.mul_tdiv_cancel _ (by decide)]
  exact bm63 (by omega) (by omega)
theorem stepP {a b c : Int} (ha : a.natAbs ≤ 4611686018427387904) (hb : b.natAbs ≤ 4611686018427387904) (hc : c.natAbs ≤ 50) : let x := lO a + oI c * lO b; lO x.toInt = lO (a + c * b) ∧ uO a + (oI c * uO b + (x - lO x.toInt) / 1099511627776) = uO (a + c * b) := by
  have c1 : (oI c).toInt = c := oI_i (by omega) (by omega)
  have hq : -54975581388800 ≤ c * (b % 1099511627776) ∧ c * (b % 1099511627776) ≤ 54975581388800 := by
    have h1 : 0 ≤ b % 1099511627776 ∧ b % 1099511627776 < 1099511627776 := by omega
    have h2 : (c * (b % 1099511627776)).natAbs ≤ 50 * 1099511627776 := by
      rw [Int.natAbs_mul]
      exact Nat.mul_le_mul hc (by omega)
    omega
  have hv : -209715200 ≤ c * (b / 1099511627776) ∧ c * (b / 1099511627776) ≤ 209715200 := by
    have h2 : (c * (b / 1099511627776)).natAbs ≤ 50 * 4194304 := by
      rw [Int.natAbs_mul]
      exact Nat.mul_le_mul hc (by omega)
    omega
  have hmul : c * b = 1099511627776 * (c * (b / 1099511627776)) + c * (b % 1099511627776) := by
    have h1 : b = 1099511627776 * (b / 1099511627776) + b % 1099511627776 := by omega
    conv => lhs; rw [h1, Int.mul_add, ← Int.mul_assoc, Int.mul_comm c 1099511627776, Int.mul_assoc]
  have e1 : (oI c * lO b).toInt = c * (b % 1099511627776) := by
    rw [Int64.toInt_mul, c1, lO_i]
    exact bm63 (by omega) (by omega)
  have e2 : (lO a + oI c * lO b).toInt = a % 1099511627776 + c * (b % 1099511627776) := by
    rw [Int64.toInt_add, e1, lO_i]
    exact bm63 (by omega) (by omega)
  have e3 : (oI c * uO b).toInt = c * (b / 1099511627776) := by
    rw [Int64.toInt_mul, c1, uO_i (by omega)]
    exact bm63 (by omega) (by omega)
  show lO (lO a + oI c * lO b).toInt = _ ∧ _
  refine ⟨?_, ?_⟩
  · rw [e2]
    show oI _ = oI _
    refine congrArg oI ?_
    rw [hmul]; omega
  · rw [hiP (by rw [e2]; omega)]
    apply Int64.toInt_inj.mp
    have e4 : (uO (lO a + oI c * lO b).toInt).toInt = (a % 1099511627776 + c * (b % 1099511627776)) / 1099511627776 := by rw [uO_i (by rw [e2]; omega), e2]
    rw [Int64.toInt_add, Int64.toInt_add, e3, e4, uO_i (by omega), bm63 (v := c * (b / 1099511627776) + _) (by omega) (by omega), bm63 (by omega) (by omega), uO_i (by rw [hmul]; omega), hmul]
    omega
/-- from the top: sums with c; i rounds; t sums of the next round -/
def sZ (c : Int) (x : Nat → Int) : Nat → Int
  | 0 => x 0
  | m + 1 => x (m + 1) + c * sZ c x m
def rZ (c : Int) (n : Nat) (x : Nat → Int) : Nat → Nat → Int
  | 0, m => x m
  | i + 1, m => if m ≤ n - i then sZ c (rZ c n x i) m else rZ c n x i m
def aZ (c : Int) (n : Nat) (x : Nat → Int) (i t m : Nat) : Int := if m ≤ t then sZ c (rZ c n x i) m else rZ c n x i m
theorem aZ_0 (c : Int) (n : Nat) (x : Nat → Int) (i m : Nat) : aZ c n x i 0 m = rZ c n x i m := by
  unfold aZ
  by_cases h : m ≤ 0
  · have : m = 0 := by omega
    subst this
    rw [if_pos h]; rfl
  · rw [if_neg h]
theorem aZ_n (c : Int) (n : Nat) (x : Nat → Int) (i m : Nat) : aZ c n x i (n - i) m = rZ c n x (i + 1) m := rfl
theorem aZ_new (c : Int) (n : Nat) (x : Nat → Int) (i t : Nat) : aZ c n x i (t + 1) (t + 1) = aZ c n x i t (t + 1) + c * aZ c n x i t t := by
  unfold aZ
  rw [if_pos (Nat.le_refl _), if_neg (by omega), if_pos (Nat.le_refl _)]; rfl
theorem aZ_old (c : Int) (n : Nat) (x : Nat → Int) (i t m : Nat) (h : m ≠ t + 1) : aZ c n x i (t + 1) m = aZ c n x i t m := by
  unfold aZ
  by_cases h1 : m ≤ t
  · rw [if_pos h1, if_pos (by omega)]
  · rw [if_neg h1, if_neg (by omega)]
theorem sZ_b {c : Int} (hc : c.natAbs ≤ 50) {x : Nat → Int} {X : Nat → Nat} : ∀ m, (∀ k, k ≤ m → (x k).natAbs ≤ X k) → (sZ c x m).natAbs ≤ scP 0 X m
  | 0, h => h 0 (by omega)
  | m + 1, h => by
    have h1 := sZ_b hc m (fun k hk => h k (by omega))
    have h2 : (c * sZ c x m).natAbs ≤ 50 * scP 0 X m := by
      rw [Int.natAbs_mul]
      exact Nat.mul_le_mul hc h1
    have h3 := h (m + 1) (by omega)
    show (x (m + 1) + c * sZ c x m).natAbs ≤ X (m + 1) + 50 * scP 0 X m
    have h4 := Int.natAbs_add_le (x (m + 1)) (c * sZ c x m)
    omega
theorem rZ_b {c : Int} (hc : c.natAbs ≤ 50) {n : Nat} {x : Nat → Int} {X : Nat → Nat} (hx : ∀ m, m ≤ n → (x m).natAbs ≤ X m) : ∀ i m, m ≤ n → (rZ c n x i m).natAbs ≤ rdN n X i m
  | 0, m, hm => hx m hm
  | i + 1, m, hm => by
    show (if m ≤ n - i then sZ c (rZ c n x i) m else rZ c n x i m).natAbs ≤ if m ≤ n - i then scP 0 (rdN n X i) m else rdN n X i m
    by_cases h : m ≤ n - i
    · rw [if_pos h, if_pos h]
      exact sZ_b hc m (fun k hk => rZ_b hc hx i k (by omega))
    · rw [if_neg h, if_neg h]
      exact rZ_b hc hx i m hm
theorem scP_ge (X : Nat → Nat) : ∀ m, X m ≤ scP 0 X m
  | 0 => by show X 0 ≤ X 0 + 50 * 0; omega
  | m + 1 => by show X (m + 1) ≤ X (m + 1) + _; omega
/-- everything that comes up stays within 2^62 -/
theorem shF_b {c : Int} (hc : c.natAbs ≤ 50) {n : Nat} {p : Nat → Int64} (h0 : p 0 = 1) (hs : sfOk n p) : (∀ i, i ≤ n → ∀ m, m ≤ n → (rZ c n (fun m => (p m).toInt) i m).natAbs ≤ 4611686018427387904) ∧ ∀ i, i < n → ∀ m, m ≤ n - i → (sZ c (rZ c n (fun m => (p m).toInt) i) m).natAbs ≤ 4611686018427387904 := by
  obtain ⟨X, x1, x2⟩ := hs
  have k2 : ∀ i, i < n → ∀ m, m ≤ n - i → (sZ c (rZ c n (fun m => (p m).toInt) i) m).natAbs ≤ 4611686018427387904 := fun i hi m hm => Nat.le_trans (sZ_b hc m (fun k hk => rZ_b hc x1 i k (by omega))) (x2 i hi m hm)
  refine ⟨fun i => ?_, k2⟩
  induction i with
  | zero =>
    intro _ m hm
    by_cases hn : n = 0
    · have : m = 0 := by omega
      subst this
      show (p 0).toInt.natAbs ≤ _
      rw [h0]; decide
    · exact Nat.le_trans (x1 m hm) (Nat.le_trans (scP_ge X m) (x2 0 (by omega) m (by omega)))
  | succ i ih =>
    intro hi m hm
    show (if m ≤ n - i then sZ c (rZ c n (fun m => (p m).toInt) i) m else rZ c n (fun m => (p m).toInt) i m).natAbs ≤ _
    by_cases h : m ≤ n - i
    · rw [if_pos h]; exact k2 i (by omega) m h
    · rw [if_neg h]; exact ih (by omega) m hm
theorem aZ_b {c : Int} (hc : c.natAbs ≤ 50) {n : Nat} {p : Nat → Int64} (h0 : p 0 = 1) (hs : sfOk n p) {i t m : Nat} (hi : i < n) (ht : t ≤ n - i) (hm : m ≤ n) : (aZ c n (fun m => (p m).toInt) i t m).natAbs ≤ 4611686018427387904 := by
  unfold aZ
  by_cases h : m ≤ t
  · rw [if_pos h]; exact (shF_b hc h0 hs).2 i hi m (by omega)
  · rw [if_neg h]; exact (shF_b hc h0 hs).1 i (by omega) m hm
/-- all rounds: the polynomial of x + c, from the top -/
abbrev shF (c : Int) (n : Nat) (p : Nat → Int64) : Nat → Int := rZ c n (fun m => (p m).toInt) n
theorem va_pre (n : Nat) (f g : Nat → Int64) : va_cpy f g 0 0 n = pre n f g := by
  funext y
  unfold va_cpy pre
  by_cases h1 : y < n
  · rw [if_pos ⟨Nat.zero_le _, by omega⟩, if_pos h1, show 0 + (y - 0) = y by omega]
  · rw [if_neg (by omega), if_neg h1]
theorem s5_cp45 (h : Zh) (s n : Nat) (C X V P Q : Nat → Int64) : zcJ (s5 h s C X V P Q) (s + 4) 0 (s + 5) 0 n = s5 h s C (pre n C X) V P Q := by
  refine congrArg (fun f => ((h.1, h.2.1, h.2.2.1, h.2.2.2.1, f, h.2.2.2.2.2) : Zh)) ?_
  funext a b
  show (if a = s + 5 then va_cpy (zJ (s5 h s C X V P Q) (s + 4)) (zJ (s5 h s C X V P Q) (s + 5)) 0 0 n b else s5J _ s C X V P Q a b) = _
  by_cases ha : a = s + 5
  · rw [if_pos ha, show zJ (s5 h s C X V P Q) (s + 4) = C from funext fun k => s5_4 h s C X V P Q k, show zJ (s5 h s C X V P Q) (s + 5) = X from funext fun k => s5_5 h s C X V P Q k, va_pre, ha]
    unfold s5J
    rw [if_neg (by omega), if_pos rfl]
  · rw [if_neg ha]
    unfold s5J
    rw [if_neg ha, if_neg ha]
section Cls
variable {h : Zh} {s n : Nat} {p : Nat → Int64}
theorem shiftBy_ok (hs : seR h s) (hn : n ≤ 10) (h13 : zI h s 13 = nI n) (C X V P Q : Nat → Int64) (hC : ∀ k, k ≤ n → C k = p (n - k)) (x1 : Int32) : gX5_shiftBy (s5 h s C X V P Q) s x1 = some (s5 h s C (pre (n + 1) (fun k => oI (shF x1.toInt n p (n - k))) X) V P Q) := by
  obtain ⟨r3, l3⟩ : zR h s 3 = some (s + 4) ∧ zL h (s + 4) = 11 := hs 3 (by omega)
  obtain ⟨r4, l4⟩ : zR h s 4 = some (s + 5) ∧ zL h (s + 5) = 11 := hs 4 (by omega)
  have x0 : zx 0 = 0 := by decide
  have en : nI n + 1 = nI (n + 1) := (nI_sc n).symm
  have xn : zx (nI (n + 1)) = n + 1 := zx_nI (by omega)
  have jc : zcp (s5 h s C X V P Q) (s + 4) 0 (s + 5) 0 (nI (n + 1)) = true := by
    unfold zcp
    rw [s5_L, s5_L, l3, l4, xn, x0]
    have b1 : decide (¬ (0 : Int32) < 0) = true := by decide
    have b2 : decide (¬ nI (n + 1) < 0) = true := decide_eq_true (nI_pos (by omega))
    have b3 : decide (0 + (n + 1) ≤ 11) = true := decide_eq_true (by omega)
    rw [b1, b2, b3]; rfl
  unfold gX5_shiftBy
  repeat (first | rw [s5_R] | rw [r3] | rw [r4] | rw [s5_I] | rw [h13] | rw [en] | rw [jc] | rw [x0] | rw [xn] | rw [s5_cp45] | rw [zlt_] | rw [zjn_] | rw [zob_s] | rw [zg_1] | rw [zbi_s] | rw [zbI_s] | rw [zbr_s] | rw [zbR_s] | rw [zbV_s] | rw [zbj_s] | rw [zbJ_s] | rw [zcs_s] | rw [zcs_n])
  generalize hc : x1.toInt = c
  let Z : Nat → Int := fun m => (p m).toInt
  let A : Nat → Nat → Nat → Int64 := fun i t k => oI (aZ c n Z i t (n - k))
  have e0 : pre (n + 1) C X = pre (n + 1) (A 0 0) X := pre_e X (fun k hk => by
    show C k = oI (aZ c n Z 0 0 (n - k))
    rw [aZ_0, hC k (by omega)]
    exact (oI_t _).symm)
  rw [e0]
  have hin : ∀ i, i < n → ∀ K : Zh → Option Zh, zlp (fun (_ : Int32) (_ : Zh) => (none : Option (Zh))) (gX5_shiftBy_L2 s x1 (nI i) K) zFU (nI n - 1) (s5 h s C (pre (n + 1) (A i 0) X) V P Q) = K (s5 h s C (pre (n + 1) (A (i + 1) 0) X) V P Q) := by
    intro i hi K
    have hh := zlp_it (R := Option Zh) (z := fun (_ : Int32) (_ : Zh) => (none : Option (Zh))) (F := gX5_shiftBy_L2 s x1 (nI i) K) (fun t (F : Int32 → Zh → Option Zh) => F (nI (n - t) - 1) (s5 h s C (pre (n + 1) (A i t) X) V P Q)) (K (s5 h s C (pre (n + 1) (A i (n - i)) X) V P Q)) (n - i) ?_ ?_ zFU (by unfold zFU; omega)
    · have e1 : A i (n - i) = A (i + 1) 0 := funext fun k => by
        show oI (aZ c n Z i (n - i) (n - k)) = oI (aZ c n Z (i + 1) 0 (n - k))
        rw [aZ_n, aZ_0]
      rw [e1] at hh
      exact hh
    · intro t ht rr
      obtain ⟨k, hk⟩ : ∃ k, k = n - (t + 1) := ⟨_, rfl⟩
      have ek : n - t = k + 1 := by omega
      have ek2 : n - (t + 1) = k := by omega
      show gX5_shiftBy_L2 s x1 (nI i) K rr (nI (n - t) - 1) (s5 h s C (pre (n + 1) (A i t) X) V P Q) = rr (nI (n - (t + 1)) - 1) (s5 h s C (pre (n + 1) (A i (t + 1)) X) V P Q)
      rw [ek, ek2, nI_pred]
      have j1 : zin (nI k) 11 = true := zin_nI (by omega) (by omega)
      have j2 : zin (nI (k + 1)) 11 = true := zin_nI (by omega) (by omega)
      have y1 : zx (nI k) = k := zx_nI (by omega)
      have y2 : zx (nI (k + 1)) = k + 1 := zx_nI (by omega)
      have ec : nI k + 1 = nI (k + 1) := (nI_sc k).symm
      have v1 : pre (n + 1) (A i t) X k = A i t k := pre_i _ _ (by omega)
      have v2 : pre (n + 1) (A i t) X (k + 1) = A i t (k + 1) := pre_i _ _ (by omega)
      have hu : updJ (pre (n + 1) (A i t) X) k (A i t k + x1.toInt64 * A i t (k + 1)) = pre (n + 1) (A i (t + 1)) X := by
        refine pre_u _ _ _ _ (by omega) ?_ (fun y hy hne => ?_)
        · show oI (aZ c n Z i (t + 1) (n - k)) = oI (aZ c n Z i t (n - k)) + x1.toInt64 * oI (aZ c n Z i t (n - (k + 1)))
          rw [show n - k = t + 1 by omega, show n - (k + 1) = t by omega, aZ_new, oI_c, hc, oI_add, oI_mul]
        · show oI (aZ c n Z i (t + 1) (n - y)) = oI (aZ c n Z i t (n - y))
          rw [aZ_old _ _ _ _ _ _ (by omega)]
      unfold gX5_shiftBy_L2
      rw [if_neg (nI_nlt (by omega) (by omega))]
      repeat (first | rw [s5_R] | rw [r4] | rw [s5_L] | rw [l4] | rw [ec] | rw [j1] | rw [j2] | rw [y1] | rw [y2] | rw [s5_5] | rw [v1] | rw [v2] | rw [s5_s5] | rw [hu] | rw [zlt_] | rw [zjn_] | rw [zob_s] | rw [zg_1] | rw [zbi_s] | rw [zbI_s] | rw [zbr_s] | rw [zbR_s] | rw [zbV_s] | rw [zbj_s] | rw [zbJ_s] | rw [zcs_s] | rw [zcs_n])
      rw [show nI k + (-1) = nI k - 1 by grind]
    · intro rr
      show gX5_shiftBy_L2 s x1 (nI i) K rr (nI (n - (n - i)) - 1) _ = _
      rw [show n - (n - i) = i by omega]
      unfold gX5_shiftBy_L2
      rw [if_pos (by
        rw [Int32.lt_iff_toInt_lt, Int32.toInt_sub, nI_int (by omega), show (1 : Int32).toInt = 1 from rfl, Int.bmod_eq_of_le (by omega) (by omega)]
        omega)]
  have hh := zlp_it (R := Option Zh) (z := fun (_ : Int32) (_ : Zh) => (none : Option (Zh))) (F := gX5_shiftBy_L3 s x1) (fun i (F : Int32 → Zh → Option Zh) => F (nI i) (s5 h s C (pre (n + 1) (A i 0) X) V P Q)) (some (s5 h s C (pre (n + 1) (A n 0) X) V P Q)) n ?_ ?_ zFU (by unfold zFU; omega)
  · have e1 : A n 0 = fun k => oI (shF c n p (n - k)) := funext fun k => by
      show oI (aZ c n Z n 0 (n - k)) = _
      rw [aZ_0]
    rw [e1] at hh
    exact hh
  · intro i hi rr
    show gX5_shiftBy_L3 s x1 rr (nI i) (s5 h s C (pre (n + 1) (A i 0) X) V P Q) = rr (nI (i + 1)) (s5 h s C (pre (n + 1) (A (i + 1) 0) X) V P Q)
    unfold gX5_shiftBy_L3
    rw [s5_I, h13, if_neg (zge_n hi (by omega)), zlt_, zjn_, hin i hi]
    unfold gX5_shiftBy_J1
    rw [← nI_sc]
  · intro rr
    show gX5_shiftBy_L3 s x1 rr (nI n) _ = _
    unfold gX5_shiftBy_L3
    rw [s5_I, h13, if_pos (Int32.le_refl _)]
end Cls
/-- rows 9 and 10 of the reference -/
def d2 (J : Nat → Nat → Int64) (U W : Nat → Int64) : Nat → Nat → Int64 := fun a => if a = 9 then U else if a = 10 then W else J a
theorem d2_9 (J : Nat → Nat → Int64) (U W : Nat → Int64) (k : Nat) (v : Int64) : zU (d2 J U W) 9 k v = d2 J (updJ U k v) W := s5_set _ _ _ _ _ (fun a ha => by unfold d2; rw [if_neg ha, if_neg ha]) rfl
theorem d2_10 (J : Nat → Nat → Int64) (U W : Nat → Int64) (k : Nat) (v : Int64) : zU (d2 J U W) 10 k v = d2 J U (updJ W k v) := s5_set _ _ _ _ _ (fun a ha => by unfold d2; simp only [if_neg ha]) rfl
theorem d2_self (J : Nat → Nat → Int64) : d2 J (J 9) (J 10) = J := by
  funext a
  unfold d2
  by_cases h1 : a = 9
  · rw [if_pos h1, h1]
  · rw [if_neg h1]
    by_cases h2 : a = 10
    · rw [if_pos h2, h2]
    · rw [if_neg h2]
section Ref
variable {I : Nat → Nat → Int32} {n : Nat} {T : Nat → Nat → Int64} {p : Nat → Int64}
theorem shiftTo_ok (h5 : I 0 5 = nI n) (hn : n ≤ 10) (J : Nat → Nat → Int64) (hT : ∀ i j, i < n → j < n → J 5 (10 * i + j) = T i j) (hp : flOk T n p) (hs : sfOk n p) {x1 : Int32} (hc : x1.toInt.natAbs ≤ 50) : ∃ J', gX12_shiftTo (mH I J) 0 x1 = some (mH I J') ∧ (∀ k, k ≤ n → J' 9 k = uO (shF x1.toInt n p (n - k)) ∧ J' 10 k = lO (shF x1.toInt n p (n - k))) ∧ ∀ a, ¬ (6 ≤ a ∧ a ≤ 10) → J' a = J a := by
  obtain ⟨J1, t1, t2, t3⟩ := layPoly_ok h5 hn J hT hp
  have n0 : ¬ (1099511627776 : Int64) = 0 := by decide
  have hb := shF_b hc hp.1 hs
  generalize hcc : x1.toInt = c at *
  have ec1 : x1.toInt64 = oI c := by rw [oI_c, hcc]
  let Z : Nat → Int := fun m => (p m).toInt
  let U : Nat → Nat → Nat → Int64 := fun i t k => uO (aZ c n Z i t (n - k))
  let W : Nat → Nat → Nat → Int64 := fun i t k => lO (aZ c n Z i t (n - k))
  refine ⟨d2 J1 (pre (n + 1) (U n 0) (J1 9)) (pre (n + 1) (W n 0) (J1 10)), ?_, fun k hk => ⟨?_, ?_⟩, fun a ha => ?_⟩
  · unfold gX12_shiftTo
    rw [t1, zbV_s, zlt_, show zI (mH I J1) 0 5 = nI n from h5, zjn_]
    have hini := zlp_it (R := Option Zh) (z := fun (_ : Int32) (_ : Zh) => (none : Option (Zh))) (F := gX12_shiftTo_L5 0 (nI n) (gX12_shiftTo_J4 0 x1 (nI n))) (fun k (F : Int32 → Zh → Option Zh) => F (nI k) (mH I (d2 J1 (pre k (U 0 0) (J1 9)) (pre k (W 0 0) (J1 10))))) (gX12_shiftTo_J4 0 x1 (nI n) (mH I (d2 J1 (pre (n + 1) (U 0 0) (J1 9)) (pre (n + 1) (W 0 0) (J1 10))))) (n + 1) ?_ ?_ zFU (by unfold zFU; omega)
    · rw [pre_0, pre_0, d2_self] at hini
      refine Eq.trans hini ?_
      unfold gX12_shiftTo_J4
      have hin : ∀ i, i < n → ∀ K : Zh → Option Zh, zlp (fun (_ : Int32) (_ : Zh) => (none : Option (Zh))) (gX12_shiftTo_L2 0 x1 (nI i) K) zFU (nI n - 1) (mH I (d2 J1 (pre (n + 1) (U i 0) (J1 9)) (pre (n + 1) (W i 0) (J1 10)))) = K (mH I (d2 J1 (pre (n + 1) (U (i + 1) 0) (J1 9)) (pre (n + 1) (W (i + 1) 0) (J1 10)))) := by
        intro i hi K
        have hh := zlp_it (R := Option Zh) (z := fun (_ : Int32) (_ : Zh) => (none : Option (Zh))) (F := gX12_shiftTo_L2 0 x1 (nI i) K) (fun t (F : Int32 → Zh → Option Zh) => F (nI (n - t) - 1) (mH I (d2 J1 (pre (n + 1) (U i t) (J1 9)) (pre (n + 1) (W i t) (J1 10))))) (K (mH I (d2 J1 (pre (n + 1) (U i (n - i)) (J1 9)) (pre (n + 1) (W i (n - i)) (J1 10))))) (n - i) ?_ ?_ zFU (by unfold zFU; omega)
        · have e1 : U i (n - i) = U (i + 1) 0 := funext fun k => by
            show uO (aZ c n Z i (n - i) (n - k)) = uO (aZ c n Z (i + 1) 0 (n - k))
            rw [aZ_n, aZ_0]
          have e2 : W i (n - i) = W (i + 1) 0 := funext fun k => by
            show lO (aZ c n Z i (n - i) (n - k)) = lO (aZ c n Z (i + 1) 0 (n - k))
            rw [aZ_n, aZ_0]
          rw [e1, e2] at hh
          exact hh
        · intro t ht rr
          obtain ⟨k, hk⟩ : ∃ k, k = n - (t + 1) := ⟨_, rfl⟩
          have ek : n - t = k + 1 := by omega
          have ek2 : n - (t + 1) = k := by omega
          show gX12_shiftTo_L2 0 x1 (nI i) K rr (nI (n - t) - 1) (mH I (d2 J1 (pre (n + 1) (U i t) (J1 9)) (pre (n + 1) (W i t) (J1 10)))) = rr (nI (n - (t + 1)) - 1) (mH I (d2 J1 (pre (n + 1) (U i (t + 1)) (J1 9)) (pre (n + 1) (W i (t + 1)) (J1 10))))
          rw [ek, ek2, nI_pred]
          have hba := aZ_b hc hp.1 hs (i := i) (t := t) (m := t + 1) hi (by omega) (by omega)
          have hbb := aZ_b hc hp.1 hs (i := i) (t := t) (m := t) hi (by omega) (by omega)
          obtain ⟨s1, s2⟩ := stepP (a := aZ c n Z i t (t + 1)) (b := aZ c n Z i t t) hba hbb hc
          rw [s1] at s2
          have q1 : ∀ U' W' k', zJ (mH I (d2 J1 U' W')) 10 k' = W' k' := fun _ _ _ => rfl
          have q2 : ∀ U' W' k', zJ (mH I (d2 J1 U' W')) 9 k' = U' k' := fun _ _ _ => rfl
          have w1 : pre (n + 1) (W i t) (J1 10) k = lO (aZ c n Z i t (t + 1)) := (pre_i _ _ (by omega)).trans (by show lO (aZ c n Z i t (n - k)) = _; rw [show n - k = t + 1 by omega])
          have w2 : pre (n + 1) (W i t) (J1 10) (k + 1) = lO (aZ c n Z i t t) := (pre_i _ _ (by omega)).trans (by show lO (aZ c n Z i t (n - (k + 1))) = _; rw [show n - (k + 1) = t by omega])
          have u1 : pre (n + 1) (U i t) (J1 9) k = uO (aZ c n Z i t (t + 1)) := (pre_i _ _ (by omega)).trans (by show uO (aZ c n Z i t (n - k)) = _; rw [show n - k = t + 1 by omega])
          have u2 : pre (n + 1) (U i t) (J1 9) (k + 1) = uO (aZ c n Z i t t) := (pre_i _ _ (by omega)).trans (by show uO (aZ c n Z i t (n - (k + 1))) = _; rw [show n - (k + 1) = t by omega])
          have hu : updJ (pre (n + 1) (U i t) (J1 9)) k (uO (aZ c n Z i t (t + 1) + c * aZ c n Z i t t)) = pre (n + 1) (U i (t + 1)) (J1 9) := by
            refine pre_u _ _ _ _ (by omega) ?_ (fun y hy hne => ?_)
            · show uO (aZ c n Z i (t + 1) (n - k)) = _
              rw [show n - k = t + 1 by omega, aZ_new]
            · show uO (aZ c n Z i (t + 1) (n - y)) = uO (aZ c n Z i t (n - y))
              rw [aZ_old _ _ _ _ _ _ (by omega)]
          have hw : updJ (pre (n + 1) (W i t) (J1 10)) k (lO (aZ c n Z i t (t + 1) + c * aZ c n Z i t t)) = pre (n + 1) (W i (t + 1)) (J1 10) := by
            refine pre_u _ _ _ _ (by omega) ?_ (fun y hy hne => ?_)
            · show lO (aZ c n Z i (t + 1) (n - k)) = _
              rw [show n - k = t + 1 by omega, aZ_new]
            · show lO (aZ c n Z i (t + 1) (n - y)) = lO (aZ c n Z i t (n - y))
              rw [aZ_old _ _ _ _ _ _ (by omega)]
          have ec : nI k + 1 = nI (k + 1) := (nI_sc k).symm
          have y1 : zx (nI k) = k := zx_nI (by omega)
          have y2 : zx (nI (k + 1)) = k + 1 := zx_nI (by omega)
          have j9 : ∀ J', zin (nI k) (zL (mH I J') 9) = true := fun J' => min_ (mL_9 _ _) (show k < 11 by omega) (by omega)
          have j9' : ∀ J', zin (nI (k + 1)) (zL (mH I J') 9) = true := fun J' => min_ (mL_9 _ _) (show k + 1 < 11 by omega) (by omega)
          have j10 : ∀ J', zin (nI k) (zL (mH I J') 10) = true := fun J' => min_ (mL_10 _ _) (show k < 11 by omega) (by omega)
          have j10' : ∀ J', zin (nI (k + 1)) (zL (mH I J') 10) = true := fun J' => min_ (mL_10 _ _) (show k + 1 < 11 by omega) (by omega)
          unfold gX12_shiftTo_L2
          rw [if_neg (nI_nlt (by omega) (by omega))]
          repeat (first | rw [mR_15] | rw [mR_14] | rw [ec] | rw [j9] | rw [j9'] | rw [j10] | rw [j10'] | rw [y1] | rw [y2] | rw [q1] | rw [q2] | rw [w1] | rw [w2] | rw [u1] | rw [u2] | rw [ec1] | rw [if_neg n0] | rw [emP] | rw [s1] | rw [s2] | rw [msJ] | rw [d2_9] | rw [d2_10] | rw [hu] | rw [hw] | rw [zlt_] | rw [zjn_] | rw [zob_s] | rw [zg_1] | rw [zbi_s] | rw [zbI_s] | rw [zbr_s] | rw [zbR_s] | rw [zbV_s] | rw [zbj_s] | rw [zbJ_s] | rw [zcs_s] | rw [zcs_n])
          rw [show nI k + (-1) = nI k - 1 by grind]
        · intro rr
          show gX12_shiftTo_L2 0 x1 (nI i) K rr (nI (n - (n - i)) - 1) _ = _
          rw [show n - (n - i) = i by omega]
          unfold gX12_shiftTo_L2
          rw [if_pos (by
            rw [Int32.lt_iff_toInt_lt, Int32.toInt_sub, nI_int (by omega), show (1 : Int32).toInt = 1 from rfl, Int.bmod_eq_of_le (by omega) (by omega)]
            omega)]
      have hh := zlp_it (R := Option Zh) (z := fun (_ : Int32) (_ : Zh) => (none : Option (Zh))) (F := gX12_shiftTo_L3 0 x1 (nI n)) (fun i (F : Int32 → Zh → Option Zh) => F (nI i) (mH I (d2 J1 (pre (n + 1) (U i 0) (J1 9)) (pre (n + 1) (W i 0) (J1 10))))) (some (mH I (d2 J1 (pre (n + 1) (U n 0) (J1 9)) (pre (n + 1) (W n 0) (J1 10))))) n ?_ ?_ zFU (by unfold zFU; omega)
      · exact hh
      · intro i hi rr
        show gX12_shiftTo_L3 0 x1 (nI n) rr (nI i) _ = rr (nI (i + 1)) _
        unfold gX12_shiftTo_L3
        rw [if_neg (zge_n hi (by omega)), zlt_, zjn_, hin i hi]
        unfold gX12_shiftTo_J1
        rw [← nI_sc]
      · intro rr
        show gX12_shiftTo_L3 0 x1 (nI n) rr (nI n) _ = _
        unfold gX12_shiftTo_L3
        rw [if_pos (Int32.le_refl _)]
    · intro k hk rr
      show gX12_shiftTo_L5 0 (nI n) (gX12_shiftTo_J4 0 x1 (nI n)) rr (nI k) (mH I (d2 J1 (pre k (U 0 0) (J1 9)) (pre k (W 0 0) (J1 10)))) = rr (nI (k + 1)) (mH I (d2 J1 (pre (k + 1) (U 0 0) (J1 9)) (pre (k + 1) (W 0 0) (J1 10))))
      have q6 : ∀ U' W', zJ (mH I (d2 J1 U' W')) 6 k = p (n - k) := fun _ _ => t2 k (by omega)
      have q1 : ∀ U' W' k', zJ (mH I (d2 J1 U' W')) 10 k' = W' k' := fun _ _ _ => rfl
      have eW : W 0 0 k = lO (p (n - k)).toInt := by
        show lO (aZ c n Z 0 0 (n - k)) = _
        rw [aZ_0]; rfl
      have eU : U 0 0 k = uO (p (n - k)).toInt := by
        show uO (aZ c n Z 0 0 (n - k)) = _
        rw [aZ_0]; rfl
      have hbk : (p (n - k)).toInt.natAbs ≤ 4611686018427387904 := hb.1 0 (by omega) (n - k) (by omega)
      have hhi := hiP hbk
      have hw : updJ (pre k (W 0 0) (J1 10)) k (lO (p (n - k)).toInt) = pre (k + 1) (W 0 0) (J1 10) := by rw [← eW, pre_s]
      have hu : updJ (pre k (U 0 0) (J1 9)) k (uO (p (n - k)).toInt) = pre (k + 1) (U 0 0) (J1 9) := by rw [← eU, pre_s]
      have wk : pre (k + 1) (W 0 0) (J1 10) k = lO (p (n - k)).toInt := by rw [pre_i _ _ (by omega), eW]
      have y1 : zx (nI k) = k := zx_nI (by omega)
      have j6 : ∀ J', zin (nI k) (zL (mH I J') 6) = true := fun J' => min_ (mL_6 _ _) (show k < 11 by omega) (by omega)
      have j9 : ∀ J', zin (nI k) (zL (mH I J') 9) = true := fun J' => min_ (mL_9 _ _) (show k < 11 by omega) (by omega)
      have j10 : ∀ J', zin (nI k) (zL (mH I J') 10) = true := fun J' => min_ (mL_10 _ _) (show k < 11 by omega) (by omega)
      unfold gX12_shiftTo_L5
      rw [if_neg (nI_nlt (by omega) (by omega))]
      repeat (first | rw [mR_15] | rw [mR_14] | rw [mR_11] | rw [j6] | rw [j9] | rw [j10] | rw [y1] | rw [q6] | rw [if_neg n0] | rw [emP] | rw [msJ] | rw [d2_10] | rw [hw] | rw [q1] | rw [wk] | rw [hhi] | rw [d2_9] | rw [hu] | rw [zlt_] | rw [zjn_] | rw [zob_s] | rw [zg_1] | rw [zbi_s] | rw [zbI_s] | rw [zbr_s] | rw [zbR_s] | rw [zbV_s] | rw [zbj_s] | rw [zbJ_s] | rw [zcs_s] | rw [zcs_n])
      rw [← nI_sc]
    · intro rr
      show gX12_shiftTo_L5 0 (nI n) (gX12_shiftTo_J4 0 x1 (nI n)) rr (nI (n + 1)) _ = _
      unfold gX12_shiftTo_L5
      rw [if_pos (nI_lt (by omega) (by omega))]
  · show pre (n + 1) (U n 0) (J1 9) k = _
    rw [pre_i _ _ (by omega)]
    show uO (aZ c n Z n 0 (n - k)) = _
    rw [aZ_0]
  · show pre (n + 1) (W n 0) (J1 10) k = _
    rw [pre_i _ _ (by omega)]
    show lO (aZ c n Z n 0 (n - k)) = _
    rw [aZ_0]
  · unfold d2
    rw [if_neg (by omega), if_neg (by omega)]
    exact t3 a (by omega) (by omega) (by omega)
end Ref
