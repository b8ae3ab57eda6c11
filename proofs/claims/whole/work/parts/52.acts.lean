/-! act: what the reference adds up -/
def aStep (N : Nat) (e d : Int32) (f t p : Nat) : Int32 := if f / 2 ^ p % 2 = f / 2 ^ ((p + 1) % N) % 2 then (if f = t then d else 0) else (if f = t then -d else if (f ^^^ 2 ^ p) ^^^ 2 ^ ((p + 1) % N) = t then e else 0)
def aSum (N : Nat) (e d : Int32) (f t : Nat) : Nat → Int32
  | 0 => 0
  | p + 1 => aSum N e d f t p + aStep N e d f t p
theorem nI_inj {a b : Nat} (ha : a < 2 ^ 31) (hb : b < 2 ^ 31) : nI a = nI b ↔ a = b := by
  constructor
  · intro h
    have := congrArg zx h
    rwa [zx_nI ha, zx_nI hb] at this
  · intro h; rw [h]
theorem bit_fin : ∀ f, f < 256 → ∀ p, p < 8 → (nI f >>> (nI p &&& 31)) &&& 1 = nI (f / 2 ^ p % 2) := by
  have h : (List.range 256).all (fun f => (List.range 8).all (fun p => decide ((nI f >>> (nI p &&& 31)) &&& 1 = nI (f / 2 ^ p % 2)))) = true := by decide +kernel
  intro f hf p hp
  exact of_decide_eq_true (List.all_eq_true.mp (List.all_eq_true.mp h f (List.mem_range.mpr hf)) p (List.mem_range.mpr hp))
theorem xor_fin : ∀ f, f < 256 → ∀ p, p < 8 → nI f ^^^ ((1 : Int32) <<< (nI p &&& 31)) = nI (f ^^^ 2 ^ p) ∧ f ^^^ 2 ^ p < 256 := by
  have h : (List.range 256).all (fun f => (List.range 8).all (fun p => decide (nI f ^^^ ((1 : Int32) <<< (nI p &&& 31)) = nI (f ^^^ 2 ^ p) ∧ f ^^^ 2 ^ p < 256))) = true := by decide +kernel
  intro f hf p hp
  exact of_decide_eq_true (List.all_eq_true.mp (List.all_eq_true.mp h f (List.mem_range.mpr hf)) p (List.mem_range.mpr hp))
theorem rem_fin : ∀ p, p < 8 → ∀ N, 2 ≤ N → N ≤ 8 → (nI p + 1) - (nI p + 1) / nI N * nI N = nI ((p + 1) % N) ∧ nI N ≠ 0 := by
  have h : (List.range 8).all (fun p => (List.range 9).all (fun N => decide (2 ≤ N → (nI p + 1) - (nI p + 1) / nI N * nI N = nI ((p + 1) % N) ∧ nI N ≠ 0))) = true := by decide +kernel
  intro p hp N h2 h8
  exact of_decide_eq_true (List.all_eq_true.mp (List.all_eq_true.mp h p (List.mem_range.mpr hp)) N (List.mem_range.mpr (by omega))) h2
theorem areAlike_ok (f p q : Nat) (a : Nat) (hf : f < 256) (hp : p < 8) (hq : q < 8) : gX12_areAlike a (nI f) (nI p) (nI q) = some (if f / 2 ^ p % 2 = f / 2 ^ q % 2 then 1 else 0) := by
  unfold gX12_areAlike
  rw [bit_fin f hf p hp, bit_fin f hf q hq]
  by_cases h : f / 2 ^ p % 2 = f / 2 ^ q % 2
  · rw [if_pos h, h, if_pos rfl]
  · rw [if_neg h, if_neg (fun h1 => h ((nI_inj (by omega) (by omega)).mp h1))]
theorem acts_ok (h : Zh) (N f t P : Nat) (e d : Int32) (h1 : zI h 0 1 = nI N) (h3 : zI h 0 3 = e) (h4 : zI h 0 4 = d) (hP : gX12_pairMany h 0 = some (nI P)) (h2 : 2 ≤ N) (h8 : N ≤ 8) (hPN : P ≤ N) (hf : f < 256) (ht : t < 256) : gX12_acts h 0 (nI f) (nI t) = some (aSum N e d f t P) := by
  unfold gX12_acts
  refine zlp_it (R := Option Int32) (fun i (F : Int32 → Int32 → Option Int32) => F (aSum N e d f t i) (nI i)) _ P ?_ ?_ zFU (by unfold zFU; omega)
  · intro i hi r
    show gX12_acts_L4 h 0 (nI f) (nI t) r (aSum N e d f t i) (nI i) = r (aSum N e d f t i + aStep N e d f t i) (nI (i + 1))
    unfold gX12_acts_L4
    obtain ⟨e1, e2⟩ := rem_fin i (by omega) N h2 h8
    have hq : (i + 1) % N < 8 := Nat.lt_of_lt_of_le (Nat.mod_lt _ (by omega)) h8
    have hle : ¬ nI P ≤ nI i := by
      rw [Int32.not_le]; exact nI_lt hi (by omega)
    rw [hP, zbi_s, if_neg hle, h1, if_neg e2, zlt_, e1, areAlike_ok f i _ 0 hf (by omega) hq, zbi_s, zjn_]
    have ei : nI i + 1 = nI (i + 1) := by rw [nI_o 1, nI_add]
    obtain ⟨x1, x2⟩ := xor_fin f hf i (by omega)
    obtain ⟨x3, x4⟩ := xor_fin _ x2 _ hq
    unfold aStep
    by_cases ha : f / 2 ^ i % 2 = f / 2 ^ ((i + 1) % N) % 2
    · rw [if_pos ha, if_pos ha, if_neg (by decide), zjn_]
      by_cases hft : f = t
      · rw [if_pos hft, if_pos ((nI_inj (by omega) (by omega)).mpr hft), h4]
        show r _ (nI i + 1) = _
        rw [ei]
      · rw [if_neg hft, if_neg (fun hh => hft ((nI_inj (by omega) (by omega)).mp hh))]
        show r _ (nI i + 1) = _
        rw [ei]
    · rw [if_neg ha, if_neg ha, if_pos rfl, zjn_]
      by_cases hft : f = t
      · rw [if_pos hft, if_pos ((nI_inj (by omega) (by omega)).mpr hft), h4]
        show r _ (nI i + 1) = _
        rw [ei]
      · rw [if_neg hft, if_neg (fun hh => hft ((nI_inj (by omega) (by omega)).mp hh)), x1, x3]
        by_cases hx : (f ^^^ 2 ^ i) ^^^ 2 ^ ((i + 1) % N) = t
        · rw [if_pos hx, if_pos ((nI_inj (by omega) (by omega)).mpr hx), h3]
          show r _ (nI i + 1) = _
          rw [ei]
        · rw [if_neg hx, if_neg (fun hh => hx ((nI_inj (by omega) (by omega)).mp hh))]
          show r _ (nI i + 1) = _
          rw [ei]
  · intro r
    show gX12_acts_L4 h 0 (nI f) (nI t) r (aSum N e d f t P) (nI P) = _
    unfold gX12_acts_L4
    rw [hP, zbi_s, if_pos (Int32.le_refl _)]
