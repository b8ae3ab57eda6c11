/-! how often H of one state has another, in the class -/
theorem alike_fin : (List.range 9).all (fun N => Nat.ble N 1 || (List.range 8).all (fun p => (List.range 256).all (fun f => Nat.ble N p || decide ((f / 2 ^ p % 2 = f / 2 ^ ((p + 1) % N) % 2) ↔ (f &&& (2 ^ p ^^^ 2 ^ ((p + 1) % N)) = 0 ∨ f &&& (2 ^ p ^^^ 2 ^ ((p + 1) % N)) = 2 ^ p ^^^ 2 ^ ((p + 1) % N)))))) = true := by decide +kernel
theorem alike_ok {N p f : Nat} (h2 : 2 ≤ N) (hN : N ≤ 8) (hp : p < N) (hf : f < 256) : (f / 2 ^ p % 2 = f / 2 ^ ((p + 1) % N) % 2) ↔ (f &&& (2 ^ p ^^^ 2 ^ ((p + 1) % N)) = 0 ∨ f &&& (2 ^ p ^^^ 2 ^ ((p + 1) % N)) = 2 ^ p ^^^ 2 ^ ((p + 1) % N)) := by
  have h1 := List.all_eq_true.mp alike_fin N (List.mem_range.mpr (by omega))
  rw [sy_ble_f (show ¬ N ≤ 1 by omega), Bool.false_or] at h1
  have h3 := List.all_eq_true.mp (List.all_eq_true.mp h1 p (List.mem_range.mpr (by omega))) f (List.mem_range.mpr hf)
  rw [sy_ble_f (show ¬ N ≤ p by omega), Bool.false_or] at h3
  exact of_decide_eq_true h3
theorem xor_shift (f t a b : Nat) : ((f ^^^ a) ^^^ b = t) ↔ (a ^^^ b = f ^^^ t) := by
  constructor
  · intro h
    rw [← h, Nat.xor_assoc, ← Nat.xor_assoc f f, Nat.xor_self, Nat.zero_xor]
  · intro h
    rw [Nat.xor_assoc, h, ← Nat.xor_assoc, Nat.xor_self, Nat.zero_xor]
theorem cCnt_s (N p b : Nat) : cCnt N (p + 1) b = cCnt N p b + (if 2 ^ p ^^^ 2 ^ ((p + 1) % N) = b then 1 else 0) := by
  unfold cCnt
  rw [List.range_succ, List.filter_append, List.length_append]
  congr 1
  by_cases h : 2 ^ p ^^^ 2 ^ ((p + 1) % N) = b
  · rw [if_pos h, List.filter_cons_of_pos (by show Nat.beq _ _ = true; rw [show Nat.xor (2 ^ p) (2 ^ ((p + 1) % N)) = b from h]; exact Nat.beq_refl _)]
    rfl
  · rw [if_neg h, List.filter_cons_of_neg (by intro hh; exact h (Nat.eq_of_beq_eq_true hh))]
    rfl
theorem aSum_hop (N : Nat) (e d : Int32) (f t : Nat) (h2 : 2 ≤ N) (hN : N ≤ 8) (hf : f < 256) (hft : f ≠ t) : ∀ p, p ≤ N → aSum N e d f t p = e * nI (if f &&& (f ^^^ t) = 0 ∨ f &&& (f ^^^ t) = f ^^^ t then 0 else cCnt N p (f ^^^ t))
  | 0, _ => by
    show (0 : Int32) = _
    rw [show (if f &&& (f ^^^ t) = 0 ∨ f &&& (f ^^^ t) = f ^^^ t then 0 else cCnt N 0 (f ^^^ t)) = 0 from by split <;> rfl]
    show _ = e * 0
    rw [Int32.mul_zero]
  | p + 1, hp => by
    show aSum N e d f t p + aStep N e d f t p = _
    rw [aSum_hop N e d f t h2 hN hf hft p (by omega)]
    unfold aStep
    rw [if_neg hft, if_neg hft]
    have ha := alike_ok h2 hN (show p < N by omega) hf
    have hx := xor_shift f t (2 ^ p) (2 ^ ((p + 1) % N))
    rw [cCnt_s]
    by_cases hm : 2 ^ p ^^^ 2 ^ ((p + 1) % N) = f ^^^ t
    · rw [if_pos hm, if_pos (hx.mpr hm)]
      rw [hm] at ha
      by_cases hal : f &&& (f ^^^ t) = 0 ∨ f &&& (f ^^^ t) = f ^^^ t
      · rw [if_pos (ha.mpr hal), if_pos hal, if_pos hal, Int32.add_zero]
      · rw [if_neg (fun h => hal (ha.mp h)), if_neg hal, if_neg hal, nI_sc]
        grind
    · rw [if_neg hm, if_neg (fun h => hm (hx.mp h))]
      simp only [Nat.add_zero]
      rw [show (if f / 2 ^ p % 2 = f / 2 ^ ((p + 1) % N) % 2 then (0 : Int32) else 0) = 0 from by split <;> rfl, Int32.add_zero]
theorem nI_xor (a b : Nat) : nI a ^^^ nI b = nI (a ^^^ b) := yI_xor (nI_yI a) (nI_yI b)
theorem nI_and (a b : Nat) : nI a &&& nI b = nI (a &&& b) := yI_and (nI_yI a) (nI_yI b)
theorem hop_ok {h : Zh} {c N r : Nat} {e d : Int32} (hc : chAt h c N r e d) (h2 : 2 ≤ N) (hN : N ≤ 8) (hr : r ≤ 1) (hd1 : -2 ≤ d.toInt) (hd2 : d.toInt ≤ 2) (f t : Nat) (hf : f < 2 ^ N) (ht : t < 2 ^ N) : gX0_hop h c (nI f) (nI t) = some (aSum N e d f t (chP N r)) := by
  have hp : 2 ^ N ≤ 256 := Nat.pow_le_pow_right (by decide) hN
  have hP : chP N r ≤ N := by unfold chP; split <;> omega
  unfold gX0_hop
  by_cases hft : f = t
  · subst hft
    rw [if_pos rfl, stay_ok hc h2 hN hr hd1 hd2 f hf, zbi_s]
  · have hx : f ^^^ t < 256 := Nat.xor_lt_two_pow (n := 8) (by omega) (by omega)
    have hl : f &&& (f ^^^ t) < 256 := Nat.lt_of_le_of_lt Nat.and_le_right hx
    rw [if_neg (fun hh => hft ((nI_inj (by omega) (by omega)).mp hh)), zlt_, nI_xor, zlt_, nI_and, aSum_hop N e d f t h2 hN (by omega) hft _ hP]
    by_cases h0 : f &&& (f ^^^ t) = 0
    · rw [if_pos (by rw [h0]; rfl), if_pos (Or.inl h0)]
      show some (0 : Int32) = some (e * 0)
      rw [Int32.mul_zero]
    · rw [if_neg (show ¬ nI (f &&& (f ^^^ t)) = 0 from fun hh => h0 ((nI_inj (b := 0) (by omega) (by omega)).mp hh))]
      by_cases h1 : f &&& (f ^^^ t) = f ^^^ t
      · rw [if_pos (by rw [h1]), if_pos (Or.inr h1)]
        show some (0 : Int32) = some (e * 0)
        rw [Int32.mul_zero]
      · rw [if_neg (fun hh => h1 ((nI_inj (by omega) (by omega)).mp hh)), if_neg (by intro hh; rcases hh with hh | hh; exact h0 hh; exact h1 hh), pairsOf_ok hc h2 hN hr _ hx, zbi_s, hc.2.2.1]
