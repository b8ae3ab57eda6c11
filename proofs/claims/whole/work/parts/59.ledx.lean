/-! moments of the class -/
def zwR (h : Zh) (R : Nat → Nat → Option Nat) : Zh := (h.1, h.2.1, h.2.2.1, h.2.2.2.1, h.2.2.2.2.1, R)
theorem zwR_R (h : Zh) (R : Nat → Nat → Option Nat) (a b : Nat) : zR (zwR h R) a b = R a b := rfl
theorem zwR_I (h : Zh) (R : Nat → Nat → Option Nat) (a b : Nat) : zI (zwR h R) a b = zI h a b := rfl
theorem zwR_L (h : Zh) (R : Nat → Nat → Option Nat) (a : Nat) : zL (zwR h R) a = zL h a := rfl
theorem zwR_s (h : Zh) (R : Nat → Nat → Option Nat) (a b : Nat) (v : Option Nat) : zsR (zwR h R) a b v = zwR h (zU R a b v) := rfl
theorem zwR_h (h : Zh) (a b : Nat) (v : Option Nat) : zsR h a b v = zwR h (zU h.2.2.2.2.2 a b v) := rfl
def ldAt (h : Zh) : Prop := zR h 1 0 = some 3 ∧ zR h 1 1 = some 4 ∧ zL h 3 = 21 ∧ zL h 4 = 84
/-- a moment copied: its chain, and k of its sums -/
def cpm (R : Nat → Nat → Option Nat) (f t k : Nat) : Nat → Nat → Option Nat := fun a b => if a = 3 ∧ b = t then R 3 f else if a = 4 ∧ 4 * t ≤ b ∧ b < 4 * t + k then R 4 (b - 4 * t + 4 * f) else R a b
theorem cpm_1 (R : Nat → Nat → Option Nat) (f t k : Nat) (b : Nat) : cpm R f t k 1 b = R 1 b := by
  unfold cpm
  rw [if_neg (by omega), if_neg (by omega)]
theorem cpm_4 (R : Nat → Nat → Option Nat) (f t k : Nat) (hft : f ≠ t) (hk : k < 4) : cpm R f t k 4 (4 * f + k) = R 4 (4 * f + k) := by
  unfold cpm
  rw [if_neg (by omega), if_neg (by omega)]
theorem cpm_s (R : Nat → Nat → Option Nat) (f t k : Nat) : zU (cpm R f t k) 4 (4 * t + k) (R 4 (4 * f + k)) = cpm R f t (k + 1) := by
  refine zU_g (fun a b ha => ?_) (fun b hb => ?_) ?_
  · unfold cpm
    by_cases h3 : a = 3 ∧ b = t
    · rw [if_pos h3, if_pos h3]
    · rw [if_neg h3, if_neg h3, if_neg (by omega), if_neg (by omega)]
  · unfold cpm
    rw [if_neg (show ¬ (4 = 3 ∧ b = t) by omega)]
    by_cases h : 4 = 4 ∧ 4 * t ≤ b ∧ b < 4 * t + k
    · rw [if_pos (show 4 = 4 ∧ 4 * t ≤ b ∧ b < 4 * t + (k + 1) by omega), if_pos h, if_neg (by omega)]
    · rw [if_neg (show ¬ (4 = 4 ∧ 4 * t ≤ b ∧ b < 4 * t + (k + 1)) by omega), if_neg h, if_neg (by omega)]
  · unfold cpm
    rw [if_neg (by omega), if_pos (by omega)]
    congr 1
    omega
theorem cpm_0 (R : Nat → Nat → Option Nat) (f t : Nat) : zU R 3 t (R 3 f) = cpm R f t 0 := by
  refine zU_g (fun a b ha => ?_) (fun b hb => ?_) ?_
  · unfold cpm
    rw [if_neg (by omega), if_neg (by omega)]
  · unfold cpm
    rw [if_neg (by omega), if_neg (by omega)]
  · unfold cpm
    rw [if_pos ⟨rfl, rfl⟩]
theorem copyMoment_ok (h : Zh) (R : Nat → Nat → Option Nat) (h0 : R 1 0 = some 3) (h1 : R 1 1 = some 4) (l3 : zL h 3 = 21) (l4 : zL h 4 = 84) (f t : Nat) (hf : f ≤ 20) (ht : t ≤ 20) (hft : f ≠ t) : gX2_copyMoment (zwR h R) 1 (nI f) (nI t) = some (zwR h (cpm R f t 4)) := by
  have x1 : zx (nI f) = f := zx_nI (by omega)
  have x2 : zx (nI t) = t := zx_nI (by omega)
  have i1 : zin (nI f) 21 = true := zin_nI (by omega) (by omega)
  have i2 : zin (nI t) 21 = true := zin_nI (by omega) (by omega)
  unfold gX2_copyMoment
  repeat (first | rw [zwR_R] | rw [zwR_L] | rw [h0] | rw [h1] | rw [l3] | rw [l4] | rw [x1] | rw [x2] | rw [i1] | rw [i2] | rw [zwR_s] | rw [cpm_0] | rw [zlt_] | rw [zjn_] | rw [zob_s] | rw [zg_1] | rw [zbi_s] | rw [zbI_s] | rw [zbr_s] | rw [zbR_s] | rw [zbV_s] | rw [zbj_s] | rw [zbJ_s] | rw [zcs_s] | rw [zcs_n])
  refine zlp_it (R := Option Zh) (fun k (F : Int32 → Zh → Option Zh) => F (nI k) (zwR h (cpm R f t k))) _ 4 ?_ ?_ zFU (by unfold zFU; omega)
  · intro k hk r
    show gX2_copyMoment_L1 1 (nI f) (nI t) r (nI k) (zwR h (cpm R f t k)) = r (nI (k + 1)) (zwR h (cpm R f t (k + 1)))
    unfold gX2_copyMoment_L1
    have hle : ¬ (4 : Int32) ≤ nI k := zge_n (b := 4) hk (by decide)
    have e1 : nI f * 4 + nI k = nI (4 * f + k) := by rw [nI_o 4, pk_mul, nI_add, Nat.mul_comm]
    have e2 : nI t * 4 + nI k = nI (4 * t + k) := by rw [nI_o 4, pk_mul, nI_add, Nat.mul_comm]
    have y1 : zx (nI (4 * f + k)) = 4 * f + k := zx_nI (by omega)
    have y2 : zx (nI (4 * t + k)) = 4 * t + k := zx_nI (by omega)
    have j1 : zin (nI (4 * f + k)) 84 = true := zin_nI (by omega) (by omega)
    have j2 : zin (nI (4 * t + k)) 84 = true := zin_nI (by omega) (by omega)
    rw [if_neg hle]
    repeat (first | rw [e1] | rw [e2] | rw [zwR_R] | rw [zwR_L] | rw [cpm_1] | rw [h1] | rw [l4] | rw [y1] | rw [y2] | rw [j1] | rw [j2] | rw [cpm_4 R f t k hft hk] | rw [zwR_s] | rw [cpm_s] | rw [← nI_sc] | rw [zlt_] | rw [zjn_] | rw [zob_s] | rw [zg_1] | rw [zbi_s] | rw [zbI_s] | rw [zbr_s] | rw [zbR_s] | rw [zbV_s] | rw [zbj_s] | rw [zbJ_s] | rw [zcs_s] | rw [zcs_n])
  · intro r
    show gX2_copyMoment_L1 1 (nI f) (nI t) r (nI 4) (zwR h (cpm R f t 4)) = _
    unfold gX2_copyMoment_L1
    rw [if_pos (show (4 : Int32) ≤ nI 4 from Int32.le_refl _)]
/-- moments moved: those below j hold the next ones -/
def rsh (R : Nat → Nat → Option Nat) (j : Nat) : Nat → Nat → Option Nat := fun a b => if a = 3 ∧ b < j then R 3 (b + 1) else if a = 4 ∧ b < 4 * j then R 4 (b + 4) else R a b
theorem rsh_0 (R : Nat → Nat → Option Nat) : rsh R 0 = R := by
  funext a b
  unfold rsh
  rw [if_neg (by omega), if_neg (by omega)]
theorem rsh_1 (R : Nat → Nat → Option Nat) (j b : Nat) : rsh R j 1 b = R 1 b := by
  unfold rsh
  rw [if_neg (by omega), if_neg (by omega)]
theorem rsh_s (R : Nat → Nat → Option Nat) (j : Nat) : cpm (rsh R j) (j + 1) j 4 = rsh R (j + 1) := by
  funext a b
  unfold cpm
  by_cases h1 : a = 3 ∧ b = j
  · rw [if_pos h1]
    unfold rsh
    rw [if_neg (by omega), if_neg (by omega), if_pos (by omega), h1.2]
  · rw [if_neg h1]
    by_cases h2 : a = 4 ∧ 4 * j ≤ b ∧ b < 4 * j + 4
    · rw [if_pos h2]
      unfold rsh
      rw [if_neg (by omega), if_neg (by omega), if_neg (by omega), if_pos (by omega)]
      congr 1
      omega
    · rw [if_neg h2]
      unfold rsh
      by_cases h3 : a = 3 ∧ b < j
      · rw [if_pos h3, if_pos (by omega)]
      · rw [if_neg h3, if_neg (show ¬ (a = 3 ∧ b < j + 1) by omega)]
        by_cases h4 : a = 4 ∧ b < 4 * j
        · rw [if_pos h4, if_pos (by omega)]
        · rw [if_neg h4, if_neg (by omega)]
def stR (R : Nat → Nat → Option Nat) (t : Nat) : Nat → Nat → Option Nat := if t = 20 then cpm (rsh R 20) 19 20 4 else cpm R t (t + 1) 4
theorem step_ok (h : Zh) (t : Nat) (ht : t ≤ 20) (hl : ldAt h) (h2 : zI h 1 2 = nI t) : ∃ h', gX2_step h 1 = some h' ∧ (zN h' = zN h ∧ zS h' = zS h ∧ (∀ a, zK h' a = zK h a) ∧ (∀ a, zL h' a = zL h a) ∧ (∀ a k, zJ h' a k = zJ h a k)) ∧ (∀ a k, zR h' a k = stR h.2.2.2.2.2 t a k) ∧ (zI h' 1 2 = nI (rn t) ∧ zI h' 1 3 = nI (rn t)) ∧ ∀ a k, ¬ (a = 1 ∧ (k = 2 ∨ k = 3)) → zI h' a k = zI h a k := by
  obtain ⟨r0, r1, l3, l4⟩ := hl
  have hz : h = zwR h h.2.2.2.2.2 := rfl
  unfold gX2_step
  rw [zjn_, h2]
  unfold stR rn
  by_cases h20 : t = 20
  · subst h20
    rw [if_pos (show nI 20 = (20 : Int32) from rfl), if_pos rfl, if_pos rfl, zjn_]
    have hloop : ∀ (K : Zh → Option Zh), zlp (fun (_ : Int32) (_ : Zh) => (none : Option (Zh))) (gX2_step_L3 1 K) zFU 0 h = K (zwR h (rsh h.2.2.2.2.2 20)) := by
      intro K
      have hh := zlp_it (R := Option Zh) (z := fun (_ : Int32) (_ : Zh) => (none : Option (Zh))) (F := gX2_step_L3 1 K) (fun j (F : Int32 → Zh → Option Zh) => F (nI j) (zwR h (rsh h.2.2.2.2.2 j))) (K (zwR h (rsh h.2.2.2.2.2 20))) 20 ?_ ?_ zFU (by unfold zFU; omega)
      · rw [rsh_0] at hh; exact hh
      · intro j hj r
        show gX2_step_L3 1 K r (nI j) (zwR h (rsh h.2.2.2.2.2 j)) = r (nI (j + 1)) (zwR h (rsh h.2.2.2.2.2 (j + 1)))
        unfold gX2_step_L3
        rw [if_neg (show ¬ (20 : Int32) ≤ nI j from zge_n (b := 20) hj (by decide)), ← nI_sc, copyMoment_ok h _ (by rw [rsh_1]; exact r0) (by rw [rsh_1]; exact r1) l3 l4 (j + 1) j (by omega) (by omega) (by omega), rsh_s]
        rfl
      · intro r
        show gX2_step_L3 1 K r (nI 20) _ = _
        unfold gX2_step_L3
        rw [if_pos (show (20 : Int32) ≤ nI 20 from Int32.le_refl _)]
    rw [hloop]
    unfold gX2_step_J2 gX2_step_J1
    have e : zsI (zwR h (rsh h.2.2.2.2.2 20)) 1 2 (zI (zwR h (rsh h.2.2.2.2.2 20)) 1 2 - 1) = zwR (zsI h 1 2 (nI 19)) (rsh h.2.2.2.2.2 20) := by
      rw [zwR_I, h2]; rfl
    rw [zlt_, e]
    have e2 : zI (zwR (zsI h 1 2 (nI 19)) (rsh h.2.2.2.2.2 20)) 1 2 = nI 19 := rfl
    rw [e2, show nI 19 + 1 = nI 20 from rfl, copyMoment_ok (zsI h 1 2 (nI 19)) _ (by rw [rsh_1]; exact r0) (by rw [rsh_1]; exact r1) l3 l4 19 20 (by omega) (by omega) (by omega)]
    refine ⟨_, rfl, ⟨rfl, rfl, fun _ => rfl, fun _ => rfl, fun _ _ => rfl⟩, fun a k => rfl, ⟨rfl, rfl⟩, fun a k hk => ?_⟩
    have : ∀ (g : Zh) (v : Int32) (x : Nat), (x = 2 ∨ x = 3) → zI (zsI g 1 x v) a k = zI g a k := fun g v x hx => by
      rw [zI_s, if_neg (by omega)]
    rw [this _ _ 3 (Or.inr rfl), this _ _ 2 (Or.inl rfl), zwR_I, this _ _ 2 (Or.inl rfl)]
  · rw [if_neg (show ¬ nI t = (20 : Int32) from fun hh => h20 ((nI_inj (b := 20) (by omega) (by omega)).mp hh)), if_neg h20, if_neg h20]
    unfold gX2_step_J1
    have hcm : gX2_copyMoment h 1 (nI t) (nI (t + 1)) = some (zwR h (cpm h.2.2.2.2.2 t (t + 1) 4)) := copyMoment_ok h h.2.2.2.2.2 r0 r1 l3 l4 t (t + 1) ht (by omega) (by omega)
    rw [h2, ← nI_sc, hcm]
    refine ⟨_, rfl, ⟨rfl, rfl, fun _ => rfl, fun _ => rfl, fun _ _ => rfl⟩, fun a k => rfl, ⟨?_, ?_⟩, fun a k hk => ?_⟩
    · show zI h 1 2 + 1 = _
      rw [h2, ← nI_sc]
    · show zI h 1 2 + 1 = _
      rw [h2, ← nI_sc]
    have : ∀ (g : Zh) (v : Int32) (x : Nat), (x = 2 ∨ x = 3) → zI (zsI g 1 x v) a k = zI g a k := fun g v x hx => by
      rw [zI_s, if_neg (by omega)]
    rw [this _ _ 3 (Or.inr rfl), this _ _ 2 (Or.inl rfl), zwR_I]
theorem stR_o (R : Nat → Nat → Option Nat) (t a b : Nat) (h3 : a ≠ 3) (h4 : a ≠ 4) : stR R t a b = R a b := by
  unfold stR
  by_cases h : t = 20
  · rw [if_pos h]
    unfold cpm
    rw [if_neg (by omega), if_neg (by omega)]
    unfold rsh
    rw [if_neg (by omega), if_neg (by omega)]
  · rw [if_neg h]
    unfold cpm
    rw [if_neg (by omega), if_neg (by omega)]
theorem stR_3 (R : Nat → Nat → Option Nat) (t j : Nat) (ht : t ≤ 20) (hj : j ≤ rn t) : stR R t 3 j = R 3 (if j = rn t then t else j + rb t) := by
  unfold stR
  unfold rn at hj
  unfold rn rb
  by_cases h : t = 20
  · rw [if_pos h] at hj
    rw [if_pos h, if_pos h, if_pos h]
    unfold cpm
    by_cases hn : j = 20
    · rw [if_pos ⟨rfl, hn⟩, if_pos hn, h]
      unfold rsh
      rw [if_pos ⟨rfl, by omega⟩]
    · rw [if_neg (by omega), if_neg (by omega), if_neg hn]
      unfold rsh
      rw [if_pos ⟨rfl, by omega⟩]
  · rw [if_neg h] at hj
    rw [if_neg h, if_neg h, if_neg h]
    unfold cpm
    by_cases hn : j = t + 1
    · rw [if_pos ⟨rfl, hn⟩, if_pos hn]
    · rw [if_neg (by omega), if_neg (by omega), if_neg hn]; rfl
theorem stR_4 (R : Nat → Nat → Option Nat) (t j k : Nat) (ht : t ≤ 20) (hj : j ≤ rn t) (hk : k < 4) : stR R t 4 (4 * j + k) = R 4 (4 * (if j = rn t then t else j + rb t) + k) := by
  unfold stR
  unfold rn at hj
  unfold rn rb
  by_cases h : t = 20
  · rw [if_pos h] at hj
    rw [if_pos h, if_pos h, if_pos h]
    unfold cpm
    by_cases hn : j = 20
    · rw [if_neg (by omega), if_pos (by omega), if_pos hn, h]
      unfold rsh
      rw [if_neg (by omega), if_pos ⟨rfl, by omega⟩]
      congr 1
      omega
    · rw [if_neg (by omega), if_neg (by omega), if_neg hn]
      unfold rsh
      rw [if_neg (by omega), if_pos ⟨rfl, by omega⟩]
      congr 1
      omega
  · rw [if_neg h] at hj
    rw [if_neg h, if_neg h, if_neg h]
    unfold cpm
    by_cases hn : j = t + 1
    · rw [if_neg (by omega), if_pos (by omega), if_pos hn]
      congr 1
      omega
    · rw [if_neg (by omega), if_neg (by omega), if_neg hn]; rfl
