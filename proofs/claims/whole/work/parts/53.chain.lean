/-! packed rows from lists -/
def pk (W : Nat) : List Nat → Nat
  | [] => 0
  | c :: cs => c + 2 ^ W * pk W cs
theorem syg_pk (W : Nat) : ∀ (l : List Nat) (p : Nat), (∀ c ∈ l, c < 2 ^ W) → syg W (pk W l) p = l.getD p 0
  | [], p, _ => by
    show (0 >>> (W * p)) % 2 ^ W = _
    simp [Nat.shiftRight_eq_div_pow]
  | c :: cs, 0, h => by
    show ((c + 2 ^ W * pk W cs) >>> (W * 0)) % 2 ^ W = c
    rw [Nat.mul_zero, Nat.shiftRight_zero, Nat.add_mul_mod_self_left, Nat.mod_eq_of_lt (h c (List.mem_cons_self ..))]
  | c :: cs, p + 1, h => by
    have ih := syg_pk W cs p (fun c' hc' => h c' (List.mem_cons_of_mem _ hc'))
    have hc := h c (List.mem_cons_self ..)
    show ((c + 2 ^ W * pk W cs) >>> (W * (p + 1))) % 2 ^ W = cs.getD p 0
    rw [← ih]
    show _ = (pk W cs >>> (W * p)) % 2 ^ W
    have e : W * (p + 1) = W + W * p := by rw [Nat.mul_add, Nat.mul_one, Nat.add_comm]
    rw [e, Nat.shiftRight_eq_div_pow, Nat.shiftRight_eq_div_pow, Nat.pow_add, ← Nat.div_div_eq_div_mul, Nat.add_mul_div_left _ _ (Nat.two_pow_pos W), Nat.div_eq_of_lt hc, Nat.zero_add]
/-- a chain: places, ring, swap, bent, states, pairs -/
def chP (N r : Nat) : Nat := if r = 0 then N - 1 else N
def chAt (h : Zh) (c N r : Nat) (e d : Int32) : Prop := zI h c 0 = nI N ∧ zI h c 1 = nI r ∧ zI h c 2 = e ∧ zI h c 3 = d ∧ zI h c 4 = nI (2 ^ N) ∧ zI h c 5 = nI (chP N r)
def cT (N r e' d' : Nat) : Sy := (pk 33 [N + 1, r + 1, e', d', 2 ^ N + 1, chP N r + 1], 0, 0)
theorem nI_yI (n : Nat) : yI (nI n) n := rfl
theorem cT_ok {h : Zh} {c N r : Nat} {e d : Int32} (hc : chAt h c N r e d) (hN : N ≤ 8) (hr : r ≤ 1) {e' d' : Nat} (he : ∀ v, e' = v + 1 → yI e v) (hd : ∀ v, d' = v + 1 → yI d v) (he2 : e' ≤ 4294967296) (hd2 : d' ≤ 4294967296) : syR (fun a => c + a) (0, 0, 0) h (cT N r e' d') h := by
  obtain ⟨c0, c1, c2, c3, c4, c5⟩ := hc
  have hz : ∀ W p, syg W 0 p = 0 := fun W p => by show (0 >>> (W * p)) % 2 ^ W = 0; simp [Nat.shiftRight_eq_div_pow]
  have hp : 2 ^ N ≤ 256 := Nat.pow_le_pow_right (by decide) hN
  have hP : chP N r ≤ 8 := by unfold chP; split <;> omega
  refine ⟨fun a v hv => ?_, fun a k v hk hv => ?_, fun a k v hk hv => ?_, fun a k v hk hv => ?_, fun b k => Or.inl rfl, fun b k => Or.inl rfl, fun b k => Or.inl rfl, rfl, rfl, rfl⟩
  · rw [hz] at hv; omega
  · rw [show (cT N r e' d').1 = pk 33 [N + 1, r + 1, e', d', 2 ^ N + 1, chP N r + 1] from rfl, syg_pk] at hv
    · have ha : a * 256 + k < 6 := by
        rcases Nat.lt_or_ge (a * 256 + k) 6 with h1 | h1
        · exact h1
        · rw [List.getD_eq_getElem?_getD, List.getElem?_eq_none (by simpa using h1)] at hv; cases hv
      have ha0 : a = 0 := by omega
      subst ha0
      show yI (zI h (c + 0) k) v
      rw [Nat.zero_mul, Nat.zero_add] at hv ha
      rcases (show k = 0 ∨ k = 1 ∨ k = 2 ∨ k = 3 ∨ k = 4 ∨ k = 5 by omega) with rfl | rfl | rfl | rfl | rfl | rfl
      · have : v = N := by simp at hv; omega
        rw [this]; exact c0
      · have : v = r := by simp at hv; omega
        rw [this]; exact c1
      · have : e' = v + 1 := by simpa using hv
        rw [Nat.add_zero, c2]; exact he v this
      · have : d' = v + 1 := by simpa using hv
        rw [Nat.add_zero, c3]; exact hd v this
      · have : v = 2 ^ N := by simp at hv; omega
        rw [this]; exact c4
      · have : v = chP N r := by simp at hv; omega
        rw [this]; exact c5
    · intro x hx
      simp at hx
      omega
  · change syg 65 0 _ = _ at hv
    rw [hz] at hv; omega
  · change syg 17 0 _ = _ at hv
    rw [hz] at hv; omega
/-- what a packed reading says -/
theorem sm_val {s : Option Nat} {g : Option Int32} {v : Nat} (h : Sm (fun b a => yI a b) s g) (hs : s = some v) : g = some (nI v) := by
  obtain ⟨a, ha, hq⟩ := h v hs
  rw [ha, hq]; rfl
def cCnt (N P b : Nat) : Nat := ((List.range P).filter (fun p => Nat.beq (Nat.xor (2 ^ p) (2 ^ ((p + 1) % N))) b)).length
def okN (s : Option Nat) (v : Nat) : Bool := match s with
  | some c => Nat.beq (c % 4294967296) v
  | none => false
theorem pairsOf_fin : (List.range 9).all (fun N => Nat.ble N 1 || (List.range 2).all (fun r => (List.range 256).all (fun b => okN (sX0_pairsOf (0, 0, 0) (cT N r 0 0) 0 b) (cCnt N (chP N r) b)))) = true := by decide +kernel
theorem okN_s {s : Option Nat} {v : Nat} (h : okN s v = true) : ∃ c, s = some c ∧ c % 4294967296 = v := by
  cases s with
  | none => cases h
  | some c => exact ⟨c, rfl, Nat.eq_of_beq_eq_true h⟩
theorem sm_okN {s : Option Nat} {g : Option Int32} {v : Nat} (h : Sm (fun b a => yI a b) s g) (hs : okN s v = true) : g = some (nI v) := by
  obtain ⟨c, hc, hv⟩ := okN_s hs
  obtain ⟨a, ha, hq⟩ := h c hc
  have h2 := yI_mod hq
  rw [ha, ← hv]
  exact congrArg some h2
theorem inj_add (c : Nat) : ∀ a b : Nat, c + a = c + b → a = b := fun a b h => by omega
theorem pairsOf_ok {h : Zh} {c N r : Nat} {e d : Int32} (hc : chAt h c N r e d) (h2 : 2 ≤ N) (hN : N ≤ 8) (hr : r ≤ 1) (b : Nat) (hb : b < 256) : gX0_pairsOf h c (nI b) = some (nI (cCnt N (chP N r) b)) := by
  have h1 := List.all_eq_true.mp pairsOf_fin N (List.mem_range.mpr (by omega))
  rw [sy_ble_f (show ¬ N ≤ 1 by omega), Bool.false_or] at h1
  have h3 := List.all_eq_true.mp (List.all_eq_true.mp h1 r (List.mem_range.mpr (by omega))) b (List.mem_range.mpr hb)
  exact sm_okN (sX0_pairsOf_ok (inj_add c) (cT_ok hc hN hr (fun v h => by omega) (fun v h => by omega) (by decide) (by decide)) (show yA (fun a => c + a) c 0 from rfl) (nI_yI b)) h3
def uCnt (N f : Nat) : Nat → Nat
  | 0 => 0
  | p + 1 => uCnt N f p + (if f / 2 ^ p % 2 = f / 2 ^ ((p + 1) % N) % 2 then 0 else 1)
theorem nI_sc (p : Nat) : nI (p + 1) = nI p + 1 := by rw [nI_o 1, nI_add]
theorem aSum_self (N : Nat) (e d : Int32) (f : Nat) : ∀ p, aSum N e d f f p = d * (nI p - 2 * nI (uCnt N f p))
  | 0 => by
    show (0 : Int32) = d * (nI 0 - 2 * nI 0)
    rw [show (nI 0 : Int32) - 2 * nI 0 = 0 from rfl, Int32.mul_zero]
  | p + 1 => by
    show aSum N e d f f p + aStep N e d f f p = _
    rw [aSum_self N e d f p]
    unfold aStep
    rw [if_pos rfl, if_pos rfl]
    by_cases h : f / 2 ^ p % 2 = f / 2 ^ ((p + 1) % N) % 2
    · rw [if_pos h, show uCnt N f (p + 1) = uCnt N f p from by show uCnt N f p + (if _ then 0 else 1) = _; rw [if_pos h, Nat.add_zero], nI_sc]
      grind
    · rw [if_neg h, show uCnt N f (p + 1) = uCnt N f p + 1 from by show uCnt N f p + (if _ then 0 else 1) = _; rw [if_neg h], nI_sc, nI_sc]
      grind
theorem stay_fin : (List.range 9).all (fun N => Nat.ble N 1 || (List.range 2).all (fun r => (List.range (2 ^ N)).all (fun f => [0, 1, 2, 4294967294, 4294967295].all (fun d => okN (sX0_stay (0, 0, 0) (cT N r 0 (d + 1)) 0 f) (d * (chP N r + 4294967296 - 2 * uCnt N f (chP N r)) % 4294967296))))) = true := by decide +kernel
theorem chAt_d {d : Int32} (h1 : -2 ≤ d.toInt) (h2 : d.toInt ≤ 2) : ∃ c, c ∈ [0, 1, 2, 4294967294, 4294967295] ∧ yI d c := by
  have e : d = Int32.ofInt d.toInt := (Int32.ofInt_toInt d).symm
  rcases (show d.toInt = 0 ∨ d.toInt = 1 ∨ d.toInt = 2 ∨ d.toInt = -2 ∨ d.toInt = -1 by omega) with h | h | h | h | h <;> rw [h] at e
  · exact ⟨0, by simp, e⟩
  · exact ⟨1, by simp, e⟩
  · exact ⟨2, by simp, e⟩
  · exact ⟨4294967294, by simp, e⟩
  · exact ⟨4294967295, by simp, e⟩
theorem uCnt_le (N f : Nat) : ∀ p, uCnt N f p ≤ p
  | 0 => Nat.le_refl _
  | p + 1 => by
    have := uCnt_le N f p
    show uCnt N f p + (if _ then 0 else 1) ≤ _
    split <;> omega
theorem stay_ok {h : Zh} {c N r : Nat} {e d : Int32} (hc : chAt h c N r e d) (h2 : 2 ≤ N) (hN : N ≤ 8) (hr : r ≤ 1) (hd1 : -2 ≤ d.toInt) (hd2 : d.toInt ≤ 2) (f : Nat) (hf : f < 2 ^ N) : gX0_stay h c (nI f) = some (aSum N e d f f (chP N r)) := by
  obtain ⟨dc, hm, hdc⟩ := chAt_d hd1 hd2
  have h1 := List.all_eq_true.mp stay_fin N (List.mem_range.mpr (by omega))
  rw [sy_ble_f (show ¬ N ≤ 1 by omega), Bool.false_or] at h1
  have h3 := List.all_eq_true.mp (List.all_eq_true.mp (List.all_eq_true.mp h1 r (List.mem_range.mpr (by omega))) f (List.mem_range.mpr hf)) dc hm
  have hdl : dc < 4294967296 := by simp at hm; omega
  have h4 := sm_okN (sX0_stay_ok (inj_add c) (cT_ok hc hN hr (e' := 0) (d' := dc + 1) (fun v h => by omega) (fun v h => by rw [← Nat.succ.inj h]; exact hdc) (by decide) (by omega)) (show yA (fun a => c + a) c 0 from rfl) (nI_yI f)) h3
  rw [h4, aSum_self]
  congr 1
  have hu := uCnt_le N f (chP N r)
  have hP : chP N r ≤ 8 := by unfold chP; split <;> omega
  have e1 : yI (d * (nI (chP N r) - 2 * nI (uCnt N f (chP N r)))) (Nat.mul dc (Nat.add (chP N r) (syn32 (Nat.mul 2 (uCnt N f (chP N r)))))) := yI_mul hdc (yI_sub (nI_yI _) (yI_mul (yI_lit 2) (nI_yI _)))
  have e2 := yI_mod e1
  have e3 : Nat.mod (Nat.mul dc (Nat.add (chP N r) (syn32 (Nat.mul 2 (uCnt N f (chP N r)))))) 4294967296 = dc * (chP N r + 4294967296 - 2 * uCnt N f (chP N r)) % 4294967296 := by
    show dc * (chP N r + (4294967296 - (2 * uCnt N f (chP N r)) % 4294967296)) % 4294967296 = _
    rw [Nat.mod_eq_of_lt (a := 2 * uCnt N f (chP N r)) (by omega), ← Nat.add_sub_assoc (by omega)]
  rw [e3] at e2
  exact e2.symm
