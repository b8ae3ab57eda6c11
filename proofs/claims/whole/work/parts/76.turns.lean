/-! quarter turns of the class; pairs of words -/
def pS (s : Nat) : Nat → Nat
  | 0 => 0
  | p + 1 => pS s p + s / 2 ^ p % 2
theorem bitCount_ok {s : Nat} (hs : s < 256) : gJ6_bitCount_0f7a4 (nI s) = some (nI (pS s 8)) := by
  have h1 := (popc_ok hs).1
  have h2 := (popc_ok hs).2
  rw [count_ok s hs] at h1
  rw [h2, ← h1]
  rfl
theorem bit_and (a b p : Nat) : (a &&& b) / 2 ^ p % 2 = (a / 2 ^ p % 2) * (b / 2 ^ p % 2) := by
  have e : ∀ n : Nat, n / 2 ^ p % 2 = (n.testBit p).toNat := fun n => by
    rw [Nat.testBit_eq_decide_div_mod_eq]
    rcases Nat.mod_two_eq_zero_or_one (n / 2 ^ p) with h | h <;> rw [h] <;> rfl
  rw [e, e, e, Nat.testBit_and]
  cases a.testBit p <;> cases b.testBit p <;> rfl
theorem bit_xor (a b p : Nat) : (a ^^^ b) / 2 ^ p % 2 = (a / 2 ^ p % 2 + b / 2 ^ p % 2) % 2 := by
  have e : ∀ n : Nat, n / 2 ^ p % 2 = (n.testBit p).toNat := fun n => by
    rw [Nat.testBit_eq_decide_div_mod_eq]
    rcases Nat.mod_two_eq_zero_or_one (n / 2 ^ p) with h | h <;> rw [h] <;> rfl
  rw [e, e, e, Nat.testBit_xor]
  cases a.testBit p <;> cases b.testBit p <;> rfl
theorem bit_hi (v p : Nat) : v / 256 / 2 ^ p % 2 = v / 2 ^ (8 + p) % 2 := by
  rw [Nat.div_div_eq_div_mul, Nat.pow_add]
theorem bit_lo (v p : Nat) (hp : p < 8) : v % 256 / 2 ^ p % 2 = v / 2 ^ p % 2 := by
  rcases (show p = 0 ∨ p = 1 ∨ p = 2 ∨ p = 3 ∨ p = 4 ∨ p = 5 ∨ p = 6 ∨ p = 7 by omega) with rfl | rfl | rfl | rfl | rfl | rfl | rfl | rfl <;> omega
/-- letters Y of a word; Z of one that meet X of another -/
def yN (v : Nat) : Nat := v / 256 &&& v % 256
theorem ltr_x (v p : Nat) : ltr v p % 2 = v / 2 ^ (8 + p) % 2 := by unfold ltr; omega
theorem ltr_z (v p : Nat) : ltr v p / 2 = v / 2 ^ p % 2 := by unfold ltr; omega
theorem quart_pl : ∀ a, a < 4 → ∀ b, b < 4 → ((a % 2) * (a / 2) + (b % 2) * (b / 2) + 2 * ((a / 2) * (b % 2))) % 4 = (((a % 2 + b % 2) % 2) * ((a / 2 + b / 2) % 2) + phF a b) % 4 ∧ (phF a b + phF b a) % 4 = 0 ∧ phF a b % 2 = ((a % 2) * (b / 2) + (b % 2) * (a / 2)) % 2 := by
  intro a ha b hb
  rcases (show a = 0 ∨ a = 1 ∨ a = 2 ∨ a = 3 by omega) with rfl | rfl | rfl | rfl <;> rcases (show b = 0 ∨ b = 1 ∨ b = 2 ∨ b = 3 by omega) with rfl | rfl | rfl | rfl <;> decide
theorem quart_sum {v w : Nat} (hv : v < 65536) (hw : w < 65536) : ∀ n, n ≤ 8 → (pS (yN v) n + pS (yN w) n + 2 * pS (v % 256 &&& w / 256) n) % 4 = (pS (yN (v ^^^ w)) n + phS v w n) % 4 ∧ (phS v w n + phS w v n) % 4 = 0 ∧ phS v w n % 2 = (pS (v / 256 &&& w % 256) n + pS (w / 256 &&& v % 256) n) % 2
  | 0, _ => by refine ⟨rfl, rfl, rfl⟩
  | n + 1, hn => by
    obtain ⟨i1, i2, i3⟩ := quart_sum hv hw n (by omega)
    obtain ⟨q1, q2, q3⟩ := quart_pl (ltr v n) (ltr_lt v n) (ltr w n) (ltr_lt w n)
    have ey : ∀ u : Nat, yN u / 2 ^ n % 2 = (ltr u n % 2) * (ltr u n / 2) := fun u => by
      unfold yN
      rw [bit_and, bit_hi, bit_lo _ _ (by omega), ltr_x, ltr_z]
    have e1 : (v % 256 &&& w / 256) / 2 ^ n % 2 = (ltr v n / 2) * (ltr w n % 2) := by rw [bit_and, bit_hi, bit_lo _ _ (by omega), ltr_x, ltr_z]
    have e2 : (v / 256 &&& w % 256) / 2 ^ n % 2 = (ltr v n % 2) * (ltr w n / 2) := by rw [bit_and, bit_hi, bit_lo _ _ (by omega), ltr_x, ltr_z]
    have e3 : (w / 256 &&& v % 256) / 2 ^ n % 2 = (ltr w n % 2) * (ltr v n / 2) := by rw [bit_and, bit_hi, bit_lo _ _ (by omega), ltr_x, ltr_z]
    have e4 : yN (v ^^^ w) / 2 ^ n % 2 = ((ltr v n % 2 + ltr w n % 2) % 2) * ((ltr v n / 2 + ltr w n / 2) % 2) := by
      rw [ey, ltr_x, ltr_z, bit_xor, bit_xor, ltr_x, ltr_x, ltr_z, ltr_z]
    show (pS (yN v) n + yN v / 2 ^ n % 2 + (pS (yN w) n + yN w / 2 ^ n % 2) + 2 * (pS (v % 256 &&& w / 256) n + (v % 256 &&& w / 256) / 2 ^ n % 2)) % 4 = (pS (yN (v ^^^ w)) n + yN (v ^^^ w) / 2 ^ n % 2 + (phS v w n + phF (ltr v n) (ltr w n))) % 4 ∧ (phS v w n + phF (ltr v n) (ltr w n) + (phS w v n + phF (ltr w n) (ltr v n))) % 4 = 0 ∧ (phS v w n + phF (ltr v n) (ltr w n)) % 2 = (pS (v / 256 &&& w % 256) n + (v / 256 &&& w % 256) / 2 ^ n % 2 + (pS (w / 256 &&& v % 256) n + (w / 256 &&& v % 256) / 2 ^ n % 2)) % 2
    rw [ey v, ey w, e1, e2, e3, e4]
    generalize ltr v n % 2 * (ltr v n / 2) = A at *
    generalize ltr w n % 2 * (ltr w n / 2) = B at *
    generalize ltr v n / 2 * (ltr w n % 2) = C at *
    generalize (ltr v n % 2 + ltr w n % 2) % 2 * ((ltr v n / 2 + ltr w n / 2) % 2) = D at *
    generalize ltr v n % 2 * (ltr w n / 2) = E at *
    generalize ltr w n % 2 * (ltr v n / 2) = F at *
    omega
theorem pS_le (s : Nat) : ∀ n, pS s n ≤ n
  | 0 => Nat.le_refl _
  | n + 1 => by
    have := pS_le s n
    show pS s n + s / 2 ^ n % 2 ≤ n + 1
    omega
theorem and_lt256 {a b : Nat} (hb : b < 256) : a &&& b < 256 := Nat.lt_of_le_of_lt Nat.and_le_right hb
theorem countY_ok {v : Nat} (hv : v < 65536) : gX3_countY (nI v) = some (nI (pS (yN v) 8)) := by
  unfold gX3_countY
  have e : ((nI v >>> ((8 : Int32) &&& 31)) &&& nI v) &&& 255 = nI (yN v) := by
    rw [nI_o 8, nI_shr (by omega) (by omega), nI_and, nI_o 255, nI_and, Nat.and_assoc, and255]
    rfl
  rw [e, bitCount_ok (s := yN v) (and_lt256 (Nat.mod_lt _ (by decide))), zbi_s]
theorem quarter_ok {v w : Nat} (hv : v < 65536) (hw : w < 65536) : gX3_quarterTurns (nI v) (nI w) = some (nI (phN v w)) := by
  unfold gX3_quarterTurns
  have e : (nI v &&& 255) &&& (nI w >>> ((8 : Int32) &&& 31)) = nI (v % 256 &&& w / 256) := by
    rw [nI_o 8, nI_shr (by omega) (by omega), nI_o 255, nI_and, nI_and, and255]
  have hx := xor_lt hv hw
  obtain ⟨q1, -, -⟩ := quart_sum hv hw 8 (Nat.le_refl _)
  have b1 := pS_le (yN (v ^^^ w)) 8
  rw [e, bitCount_ok (Nat.lt_of_le_of_lt Nat.and_le_left (Nat.mod_lt _ (by decide))), zbi_s, countY_ok hv, zbi_s, countY_ok hw, zbi_s, nI_xor, countY_ok hx, zbi_s, nI_o 2, pk_mul, nI_add, nI_add]
  congr 1
  have e2 : nI (pS (yN v) 8 + pS (yN w) 8 + 2 * pS (v % 256 &&& w / 256) 8) - nI (pS (yN (v ^^^ w)) 8) = nI (pS (yN v) 8 + pS (yN w) 8 + 2 * pS (v % 256 &&& w / 256) 8 + (4294967296 - pS (yN (v ^^^ w)) 8)) := by
    have h := yI_sub (nI_yI (pS (yN v) 8 + pS (yN w) 8 + 2 * pS (v % 256 &&& w / 256) 8)) (nI_yI (pS (yN (v ^^^ w)) 8))
    rw [show (nI (pS (yN v) 8 + pS (yN w) 8 + 2 * pS (v % 256 &&& w / 256) 8) - nI (pS (yN (v ^^^ w)) 8)) = nI (Nat.add (pS (yN v) 8 + pS (yN w) 8 + 2 * pS (v % 256 &&& w / 256) 8) (syn32 (pS (yN (v ^^^ w)) 8))) from h]
    unfold syn32
    rw [show Nat.mod (pS (yN (v ^^^ w)) 8) 4294967296 = pS (yN (v ^^^ w)) 8 from Nat.mod_eq_of_lt (by omega)]
    rfl
  rw [e2, nI_o 3, nI_and, and3]
  unfold phN
  congr 1
  omega
/-- whether two words give the same either way round -/
abbrev comN (v w : Nat) : Prop := (pS (v / 256 &&& w % 256) 8 + pS (w / 256 &&& v % 256) 8) % 2 = 0
theorem change_ok {v w : Nat} (hv : v < 65536) (hw : w < 65536) : gX3_changePlaces (nI v) (nI w) = some (if comN v w then 1 else 0) := by
  unfold gX3_changePlaces
  have e : ∀ v w : Nat, v < 65536 → ((nI v >>> ((8 : Int32) &&& 31)) &&& nI w) &&& 255 = nI (v / 256 &&& w % 256) := fun v w hv => by
    rw [nI_o 8, nI_shr (by omega) (by omega), nI_and, nI_o 255, nI_and, Nat.and_assoc, and255]
  have b1 := pS_le (v / 256 &&& w % 256) 8
  have b2 := pS_le (w / 256 &&& v % 256) 8
  have hrem : ∀ n : Nat, n ≤ 16 → nI n - nI n / 2 * 2 = nI (n % 2) := fun n hn => by
    have hf : (List.range 17).all (fun n => decide (nI n - nI n / 2 * 2 = nI (n % 2))) = true := by decide +kernel
    exact of_decide_eq_true (List.all_eq_true.mp hf n (List.mem_range.mpr (by omega)))
  rw [e v w hv, e w v hw, bitCount_ok (and_lt256 (Nat.mod_lt _ (by decide))), zbi_s, bitCount_ok (and_lt256 (Nat.mod_lt _ (by decide))), zbi_s, zlt_, nI_add, if_neg (by decide), hrem _ (by omega)]
  unfold comN
  rcases Nat.mod_two_eq_zero_or_one (pS (v / 256 &&& w % 256) 8 + pS (w / 256 &&& v % 256) 8) with h | h <;> rw [h] <;> rfl
theorem ph_rev {v w : Nat} (hv : v < 65536) (hw : w < 65536) : (phN v w + phN w v) % 4 = 0 ∧ (phN v w % 2 = 0 ↔ comN v w) := by
  obtain ⟨-, q2, q3⟩ := quart_sum hv hw 8 (Nat.le_refl _)
  unfold phN comN
  omega
theorem pa_c (v w : Wd) : pa v w = pa w v ∧ pb v w = pb w v := by unfold pa pb; exact ⟨by grind, by grind⟩
/-- a product less the one the other way round -/
theorem brk {v w : Wd} (hv : v.1 < 65536) (hw : w.1 < 65536) : ((1 : Int32).toInt64 * tuR (phN v.1 w.1) (pa v w) (pb v w) + (-1 : Int32).toInt64 * tuR (phN w.1 v.1) (pa w v) (pb w v) = if comN v.1 w.1 then 0 else 2 * tuR (phN v.1 w.1) (pa v w) (pb v w)) ∧ ((1 : Int32).toInt64 * tuI (phN v.1 w.1) (pa v w) (pb v w) + (-1 : Int32).toInt64 * tuI (phN w.1 v.1) (pa w v) (pb w v) = if comN v.1 w.1 then 0 else 2 * tuI (phN v.1 w.1) (pa v w) (pb v w)) := by
  obtain ⟨r1, r2⟩ := ph_rev hv hw
  rw [(pa_c w v).1, (pa_c w v).2, show (1 : Int32).toInt64 = 1 from rfl, show (-1 : Int32).toInt64 = -1 from rfl]
  have l1 : phN v.1 w.1 < 4 := Nat.mod_lt _ (by decide)
  have l2 : phN w.1 v.1 < 4 := Nat.mod_lt _ (by decide)
  unfold tuR tuI
  rcases (show (phN v.1 w.1 = 0 ∧ phN w.1 v.1 = 0) ∨ (phN v.1 w.1 = 1 ∧ phN w.1 v.1 = 3) ∨ (phN v.1 w.1 = 2 ∧ phN w.1 v.1 = 2) ∨ (phN v.1 w.1 = 3 ∧ phN w.1 v.1 = 1) by omega) with ⟨a, b⟩ | ⟨a, b⟩ | ⟨a, b⟩ | ⟨a, b⟩
  · rw [if_pos (r2.mp (by rw [a])), if_pos (r2.mp (by rw [a])), a, b]
    exact ⟨by simp; grind, by simp; grind⟩
  · rw [if_neg (fun h => absurd (r2.mpr h) (by rw [a]; decide)), if_neg (fun h => absurd (r2.mpr h) (by rw [a]; decide)), a, b]
    exact ⟨by simp; grind, by simp; grind⟩
  · rw [if_pos (r2.mp (by rw [a])), if_pos (r2.mp (by rw [a])), a, b]
    exact ⟨by simp; grind, by simp; grind⟩
  · rw [if_neg (fun h => absurd (r2.mpr h) (by rw [a]; decide)), if_neg (fun h => absurd (r2.mpr h) (by rw [a]; decide)), a, b]
    exact ⟨by simp; grind, by simp; grind⟩
