/-! the reference's chain, packed; turns on both sides -/
def mcAt (h : Zh) (N r : Nat) (e d : Int32) : Prop := zI h 0 1 = nI N ∧ zI h 0 2 = nI r ∧ zI h 0 3 = e ∧ zI h 0 4 = d
def rT (N r e' d' : Nat) : Sy := (pk 33 [0, N + 1, r + 1, e', d'], 0, 0)
theorem rT_ok {h : Zh} {N r : Nat} {e d : Int32} (hc : mcAt h N r e d) (hN : N ≤ 8) (hr : r ≤ 1) {e' d' : Nat} (he : ∀ v, e' = v + 1 → yI e v) (hd : ∀ v, d' = v + 1 → yI d v) (he2 : e' ≤ 4294967296) (hd2 : d' ≤ 4294967296) : syR (fun a => a) (0, 0, 0) h (rT N r e' d') h := by
  obtain ⟨c1, c2, c3, c4⟩ := hc
  have hz : ∀ W p, syg W 0 p = 0 := fun W p => by show (0 >>> (W * p)) % 2 ^ W = 0; simp [Nat.shiftRight_eq_div_pow]
  refine ⟨fun a v hv => ?_, fun a k v hk hv => ?_, fun a k v hk hv => ?_, fun a k v hk hv => ?_, fun b k => Or.inl rfl, fun b k => Or.inl rfl, fun b k => Or.inl rfl, rfl, rfl, rfl⟩
  · rw [hz] at hv; omega
  · rw [show (rT N r e' d').1 = pk 33 [0, N + 1, r + 1, e', d'] from rfl, syg_pk] at hv
    · have ha : a * 256 + k < 5 := by
        rcases Nat.lt_or_ge (a * 256 + k) 5 with h1 | h1
        · exact h1
        · rw [List.getD_eq_getElem?_getD, List.getElem?_eq_none (by simpa using h1)] at hv; cases hv
      have ha0 : a = 0 := by omega
      subst ha0
      rw [Nat.zero_mul, Nat.zero_add] at hv ha
      rcases (show k = 0 ∨ k = 1 ∨ k = 2 ∨ k = 3 ∨ k = 4 by omega) with rfl | rfl | rfl | rfl | rfl
      · simp at hv
      · have : v = N := by simp at hv; omega
        rw [this]; exact c1
      · have : v = r := by simp at hv; omega
        rw [this]; exact c2
      · have : e' = v + 1 := by simpa using hv
        rw [c3]; exact he v this
      · have : d' = v + 1 := by simpa using hv
        rw [c4]; exact hd v this
    · intro x hx
      simp at hx
      omega
  · change syg 65 0 _ = _ at hv
    rw [hz] at hv; omega
  · change syg 17 0 _ = _ at hv
    rw [hz] at hv; omega
/-- a turn, plainly -/
def tuN (N r f : Nat) : Nat := (List.range N).foldl (fun a i => a + f / 2 ^ i % 2 * 2 ^ (if r = 0 then N - 1 - i else (i + 1) % N)) 0
theorem turn_fin : (List.range 9).all (fun N => Nat.ble N 1 || (List.range 2).all (fun r => (List.range (2 ^ N)).all (fun f => okN (sX12_turnOf (0, 0, 0) (rT N r 0 0) 0 f) (tuN N r f) && okN (sX0_turn (0, 0, 0) (cT N r 0 0) 0 f) (tuN N r f) && Nat.ble (tuN N r f + 1) (2 ^ N)))) = true := by decide +kernel
theorem turn_all {N r f : Nat} (h2 : 2 ≤ N) (hN : N ≤ 8) (hr : r ≤ 1) (hf : f < 2 ^ N) : okN (sX12_turnOf (0, 0, 0) (rT N r 0 0) 0 f) (tuN N r f) = true ∧ okN (sX0_turn (0, 0, 0) (cT N r 0 0) 0 f) (tuN N r f) = true ∧ tuN N r f < 2 ^ N := by
  have h1 := List.all_eq_true.mp turn_fin N (List.mem_range.mpr (by omega))
  rw [sy_ble_f (show ¬ N ≤ 1 by omega), Bool.false_or] at h1
  have h3 := List.all_eq_true.mp (List.all_eq_true.mp h1 r (List.mem_range.mpr (by omega))) f (List.mem_range.mpr hf)
  simp only [Bool.and_eq_true] at h3
  exact ⟨h3.1.1, h3.1.2, Nat.le_of_ble_eq_true h3.2⟩
theorem turnOf_ok {h : Zh} {N r : Nat} {e d : Int32} (hc : mcAt h N r e d) (h2 : 2 ≤ N) (hN : N ≤ 8) (hr : r ≤ 1) (f : Nat) (hf : f < 2 ^ N) : gX12_turnOf h 0 (nI f) = some (nI (tuN N r f)) :=
  sm_okN (sX12_turnOf_ok (fun _ _ hh => hh) (rT_ok hc hN hr (fun v hh => by omega) (fun v hh => by omega) (by decide) (by decide)) (show yA (fun a => a) 0 0 from rfl) (nI_yI f)) (turn_all h2 hN hr hf).1
theorem turn_ok {h : Zh} {c N r : Nat} {e d : Int32} (hc : chAt h c N r e d) (h2 : 2 ≤ N) (hN : N ≤ 8) (hr : r ≤ 1) (f : Nat) (hf : f < 2 ^ N) : gX0_turn h c (nI f) = some (nI (tuN N r f)) :=
  sm_okN (sX0_turn_ok (inj_add c) (cT_ok hc hN hr (fun v hh => by omega) (fun v hh => by omega) (by decide) (by decide)) (show yA (fun a => c + a) c 0 from rfl) (nI_yI f)) (turn_all h2 hN hr hf).2.1
