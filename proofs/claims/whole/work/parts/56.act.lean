/-! act and turned: both sides -/
theorem shl_fin : ∀ N, N ≤ 8 → (1 : Int32) <<< (nI N &&& 31) = nI (2 ^ N) ∧ ((nI (2 ^ N)).toInt64 - 1).toInt = 2 ^ N - 1 ∧ (nI (2 ^ N)).toInt = 2 ^ N := by
  have h : (List.range 9).all (fun N => decide ((1 : Int32) <<< (nI N &&& 31) = nI (2 ^ N) ∧ ((nI (2 ^ N)).toInt64 - 1).toInt = 2 ^ N - 1 ∧ (nI (2 ^ N)).toInt = 2 ^ N)) = true := by decide +kernel
  intro N hN
  exact of_decide_eq_true (List.all_eq_true.mp h N (List.mem_range.mpr (by omega)))
abbrev inSt (x : Int32) (N : Nat) : Prop := 0 ≤ x.toInt ∧ x.toInt < 2 ^ N
theorem inSt_f {x : Int32} {N : Nat} (h : inSt x N) : ∃ f, f < 2 ^ N ∧ x = nI f := by
  have h1 := h.1
  have h2 := h.2
  refine ⟨x.toInt.toNat, ?_, ?_⟩
  · have : ((x.toInt.toNat : Nat) : Int) < ((2 ^ N : Nat) : Int) := by
      rw [Int.toNat_of_nonneg h1, Int.natCast_pow]; exact h2
    omega
  · apply Int32.toInt_inj.mp
    have h3 : x.toInt < 2 ^ 31 := Int32.toInt_lt x
    show _ = (Int32.ofNat x.toInt.toNat).toInt
    rw [Int32.toInt_ofNat_of_lt (by omega)]
    omega
theorem noStateM {h : Zh} {N : Nat} (h1 : zI h 0 1 = nI N) (hN : N ≤ 8) (x : Int32) : gX12_noState h 0 x = some (if inSt x N then 0 else 1) := by
  obtain ⟨e1, e2, e3⟩ := shl_fin N hN
  unfold gX12_noState gX12_stateMany
  rw [h1, e1, zbi_s, in_ii, e2, zbi_s]
  show (if (if (0 : Int64).toInt ≤ x.toInt ∧ x.toInt ≤ 2 ^ N - 1 then (1 : Int32) else 0) = 0 then some 1 else some 0) = _
  rw [show (0 : Int64).toInt = 0 from rfl]
  by_cases h : inSt x N
  · rw [if_pos (show 0 ≤ x.toInt ∧ x.toInt ≤ 2 ^ N - 1 from ⟨h.1, by have := h.2; omega⟩), if_pos h]; rfl
  · rw [if_neg (show ¬ (0 ≤ x.toInt ∧ x.toInt ≤ 2 ^ N - 1) from fun hh => h ⟨hh.1, by have := hh.2; omega⟩), if_neg h]; rfl
theorem noStateX {N : Nat} (hN : N ≤ 8) (x : Int32) : gX11_noState x (nI N) = some (if inSt x N then 0 else 1) := by
  obtain ⟨e1, e2, e3⟩ := shl_fin N hN
  unfold gX11_noState gX11_noState_J1
  rw [zjn_, e1]
  by_cases h0 : x < 0
  · rw [if_pos h0, if_neg (fun hh => by
      rw [Int32.lt_iff_toInt_lt] at h0
      have h2 := hh.1
      rw [show (0 : Int32).toInt = 0 from rfl] at h0
      omega)]
  · rw [if_neg h0]
    have h1 : 0 ≤ x.toInt := by
      rw [Int32.lt_iff_toInt_lt, show (0 : Int32).toInt = 0 from rfl] at h0
      omega
    by_cases h2 : x < nI (2 ^ N)
    · rw [if_pos h2, if_pos ⟨h1, by rw [Int32.lt_iff_toInt_lt, e3] at h2; exact h2⟩]
    · rw [if_neg h2, if_neg (fun hh => h2 (by rw [Int32.lt_iff_toInt_lt, e3]; exact hh.2))]
/-- the chain that is: at cell c of the class's heap -/
def cnAt (h : Zh) (c : Nat) : Prop := zR h 0 0 = some 1 ∧ zR h 1 0 = some 3 ∧ zL h 3 = 21 ∧ ∃ t, t ≤ 20 ∧ zI h 1 2 = nI t ∧ zR h 3 t = some c
theorem chainNow_ok {h : Zh} {c : Nat} (hc : cnAt h c) : gX2_chainNow h 1 = some (some c) := by
  obtain ⟨_, c1, c2, t, ht, c3, c4⟩ := hc
  unfold gX2_chainNow
  rw [c1, zlt_, zob_s, c3, c2, zin_nI (by omega) (by omega), zx_nI (by omega), zg_t rfl, c4, zlt_]
def actV (N r : Nat) (e d : Int32) (x y : Int32) : Int64 := if inSt x N ∧ inSt y N then (aSum N e d x.toInt.toNat y.toInt.toNat (chP N r)).toInt64 else -9223372036854775808
theorem nI_nat {f : Nat} (hf : f < 256) : (nI f).toInt.toNat = f := zx_nI (by omega)
theorem pairMany_ok {h : Zh} {N r : Nat} {e d : Int32} (hc : mcAt h N r e d) (h2 : 2 ≤ N) (hr : r ≤ 1) : gX12_pairMany h 0 = some (nI (chP N r)) := by
  unfold gX12_pairMany chP
  rw [hc.2.1, hc.1]
  rcases (show r = 0 ∨ r = 1 by omega) with rfl | rfl
  · rw [if_pos rfl, if_pos (show nI 0 = 0 from rfl)]
    congr 1
    obtain ⟨m, rfl⟩ : ∃ m, N = m + 1 := ⟨N - 1, by omega⟩
    rw [nI_sc, Nat.add_sub_cancel]
    grind
  · rw [if_neg (by decide), if_neg (by decide)]
theorem actM {h : Zh} {N r : Nat} {e d : Int32} (hc : mcAt h N r e d) (h2 : 2 ≤ N) (hN : N ≤ 8) (hr : r ≤ 1) (x y : Int32) : gX12_act h 0 x y = some (actV N r e d x y) := by
  have hp : 2 ^ N ≤ 256 := Nat.pow_le_pow_right (by decide) hN
  unfold gX12_act gX12_act_J1 actV
  rw [noStateM hc.1 hN, zbi_s, zjn_]
  by_cases hx : inSt x N
  · rw [if_pos hx, if_pos rfl, noStateM hc.1 hN, zbi_s]
    by_cases hy : inSt y N
    · rw [if_pos hy, if_pos rfl, if_pos ⟨hx, hy⟩]
      obtain ⟨f, hf, rfl⟩ := inSt_f hx
      obtain ⟨t, ht, rfl⟩ := inSt_f hy
      rw [acts_ok h N f t (chP N r) e d hc.1 hc.2.2.1 hc.2.2.2 (pairMany_ok hc h2 hr) h2 hN (by unfold chP; split <;> omega) (by omega) (by omega), zbi_s, nI_nat (by omega), nI_nat (by omega)]
    · rw [if_neg hy, if_neg (by decide), if_neg (fun hh => hy hh.2)]; rfl
  · rw [if_neg hx, if_neg (by decide), if_neg (fun hh => hx hh.1)]; rfl
theorem actX {h : Zh} {c N r : Nat} {e d : Int32} (hn : cnAt h c) (hc : chAt h c N r e d) (h2 : 2 ≤ N) (hN : N ≤ 8) (hr : r ≤ 1) (hd1 : -2 ≤ d.toInt) (hd2 : d.toInt ≤ 2) (x y : Int32) : gX11_act h 0 x y = some (actV N r e d x y) := by
  have hp : 2 ^ N ≤ 256 := Nat.pow_le_pow_right (by decide) hN
  unfold gX11_act actV
  rw [hn.1, zlt_, zob_s, chainNow_ok hn, zbr_s, zob_s, hc.1, noStateX hN, zbi_s]
  by_cases hx : inSt x N
  · rw [if_pos hx, if_pos rfl, noStateX hN, zbi_s]
    by_cases hy : inSt y N
    · rw [if_pos hy, if_pos rfl, if_pos ⟨hx, hy⟩]
      obtain ⟨f, hf, rfl⟩ := inSt_f hx
      obtain ⟨t, ht, rfl⟩ := inSt_f hy
      rw [hop_ok hc h2 hN hr hd1 hd2 f t hf ht, zbi_s, nI_nat (by omega), nI_nat (by omega)]
    · rw [if_neg hy, if_neg (by decide), if_neg (fun hh => hy hh.2)]
  · rw [if_neg hx, if_neg (by decide), if_neg (fun hh => hx hh.1)]
def turnV (N r : Nat) (x : Int32) : Int32 := if inSt x N then nI (tuN N r x.toInt.toNat) else -2
theorem turnedM {h : Zh} {N r : Nat} {e d : Int32} (hc : mcAt h N r e d) (h2 : 2 ≤ N) (hN : N ≤ 8) (hr : r ≤ 1) (x : Int32) : gX12_turned h 0 x = some (turnV N r x) := by
  have hp : 2 ^ N ≤ 256 := Nat.pow_le_pow_right (by decide) hN
  unfold gX12_turned turnV
  rw [noStateM hc.1 hN, zbi_s]
  by_cases hx : inSt x N
  · rw [if_pos hx, if_pos rfl, if_pos hx]
    obtain ⟨f, hf, rfl⟩ := inSt_f hx
    rw [turnOf_ok hc h2 hN hr f hf, zbi_s, nI_nat (by omega)]
  · rw [if_neg hx, if_neg (by decide), if_neg hx]
theorem turnedX {h : Zh} {c N r : Nat} {e d : Int32} (hn : cnAt h c) (hc : chAt h c N r e d) (h2 : 2 ≤ N) (hN : N ≤ 8) (hr : r ≤ 1) (x : Int32) : gX11_turned h 0 x = some (turnV N r x) := by
  have hp : 2 ^ N ≤ 256 := Nat.pow_le_pow_right (by decide) hN
  unfold gX11_turned turnV
  rw [hn.1, zlt_, zob_s, chainNow_ok hn, zbr_s, zob_s, hc.1, noStateX hN, zbi_s]
  by_cases hx : inSt x N
  · rw [if_pos hx, if_pos rfl, if_pos hx]
    obtain ⟨f, hf, rfl⟩ := inSt_f hx
    rw [turn_ok hc h2 hN hr f hf, zbi_s, nI_nat (by omega)]
  · rw [if_neg hx, if_neg (by decide), if_neg hx]
