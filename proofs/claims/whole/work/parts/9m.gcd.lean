/-! the greatest common divisor, as both find it -/
def eu : Nat → Int64 → Int64 → Int64
  | 0, a, _ => a
  | f + 1, a, b => if b = 0 then a else eu f b (a - a / b * b)
def euH : Nat → Int64 → Int64 → Prop
  | 0, _, b => b = 0
  | f + 1, a, b => b = 0 ∨ euH f b (a - a / b * b)
def absJ (x : Int64) : Int64 := if x < 0 then -x else x
def cmV (x y : Int64) : Int64 := eu 200 (absJ x) (absJ y)
theorem bmod_bd (z : Int) : -9223372036854775808 ≤ z.bmod 18446744073709551616 ∧ z.bmod 18446744073709551616 < 9223372036854775808 := by
  unfold Int.bmod
  simp only []
  split <;> omega
theorem div_oI (a b : Int64) : a / b = oI (a.toInt.tdiv b.toInt) := Int64.toInt_inj.mp (by
  rw [Int64.toInt_div]
  exact (Int64.toInt_ofInt (n := a.toInt.tdiv b.toInt)).symm)
theorem mod_ok (a b : Int64) (hb : b ≠ 0) : (a - a / b * b).toInt = a.toInt.tmod b.toInt := by
  have hb0 : b.toInt ≠ 0 := fun hh => hb (Int64.toInt_inj.mp (hh.trans (show (0 : Int) = (0 : Int64).toInt from rfl)))
  have e : a - a / b * b = oI (a.toInt.tmod b.toInt) := by
    have h1 : a.toInt.tmod b.toInt = a.toInt + -(a.toInt.tdiv b.toInt * b.toInt) := by
      have := Int.tmod_add_mul_tdiv a.toInt b.toInt
      rw [Int.mul_comm] at this
      omega
    have hn : oI (-(a.toInt.tdiv b.toInt * b.toInt)) = -oI (a.toInt.tdiv b.toInt * b.toInt) := Int64.ofInt_neg _
    rw [h1, oI_add, hn, oI_mul, oI_t, oI_t, div_oI]
    grind
  have h2 := a.le_toInt
  have h3 := a.toInt_lt
  have hbd := b.le_toInt
  have hbl := b.toInt_lt
  have h4 : (a.toInt.tmod b.toInt).natAbs < b.toInt.natAbs := by
    rw [Int.natAbs_tmod]
    exact Nat.mod_lt _ (by omega)
  rw [e]
  exact oI_i (by omega) (by omega)
theorem mod_nat (a b : Int64) (hb : b ≠ 0) : (a - a / b * b).toInt.natAbs = a.toInt.natAbs % b.toInt.natAbs := by rw [mod_ok a b hb, Int.natAbs_tmod]
theorem ne0_nat {b : Int64} : b ≠ 0 ↔ b.toInt.natAbs ≠ 0 := by
  refine ⟨fun h hh => h (Int64.toInt_inj.mp ?_), fun h hh => h (by rw [hh]; rfl)⟩
  show b.toInt = 0
  omega
theorem euH_ok : ∀ (k : Nat) (a b : Int64), b.toInt.natAbs < 2 ^ k → euH (2 * k) a b
  | 0, a, b, h => by
    show b = 0
    apply Classical.byContradiction
    intro hh
    have := ne0_nat.mp hh
    omega
  | k + 1, a, b, h => by
    show euH (2 * k + 1 + 1) a b
    by_cases h0 : b = 0
    · exact Or.inl h0
    refine Or.inr ?_
    generalize hr : a - a / b * b = r1
    have e1 : r1.toInt.natAbs = a.toInt.natAbs % b.toInt.natAbs := by rw [← hr]; exact mod_nat a b h0
    by_cases h1 : r1 = 0
    · exact Or.inl h1
    refine Or.inr (euH_ok k _ _ ?_)
    rw [mod_nat b r1 h1]
    have n1 := ne0_nat.mp h0
    have n2 := ne0_nat.mp h1
    have l1 : r1.toInt.natAbs < b.toInt.natAbs := by rw [e1]; exact Nat.mod_lt _ (by omega)
    have l2 := Nat.mod_lt b.toInt.natAbs (show 0 < r1.toInt.natAbs by omega)
    have l3 : r1.toInt.natAbs + b.toInt.natAbs % r1.toInt.natAbs ≤ b.toInt.natAbs := by
      have d1 := Nat.div_add_mod b.toInt.natAbs r1.toInt.natAbs
      have d2 : 1 ≤ b.toInt.natAbs / r1.toInt.natAbs := (Nat.one_le_div_iff (by omega)).mpr (by omega)
      have d3 : r1.toInt.natAbs * 1 ≤ r1.toInt.natAbs * (b.toInt.natAbs / r1.toInt.natAbs) := Nat.mul_le_mul_left _ d2
      omega
    have l4 : b.toInt.natAbs < 2 * 2 ^ k := by rw [Nat.pow_succ] at h; omega
    omega
theorem euH_up : ∀ (f : Nat) (a b : Int64), euH f a b → euH (f + 1) a b
  | 0, a, b, h => Or.inl h
  | f + 1, a, b, h => by
    rcases h with h | h
    · exact Or.inl h
    · exact Or.inr (euH_up f _ _ h)
theorem euH_le {f g : Nat} (h : f ≤ g) {a b : Int64} (p : euH f a b) : euH g a b := by
  obtain ⟨k, rfl⟩ : ∃ k, g = f + k := ⟨g - f, by omega⟩
  clear h
  induction k with
  | zero => exact p
  | succ k ih => exact euH_up _ _ _ ih
theorem euH_200 (a b : Int64) : euH 200 a b := euH_le (f := 2 * 64) (by omega) (euH_ok 64 a b (by
  have h1 := b.le_toInt
  have h2 := b.toInt_lt
  omega))
/-- bounds: not above either of the two that isn't 0, and 0 only of zeros -/
theorem eu_b : ∀ (f : Nat) (a b : Int64), euH f a b → (b ≠ 0 → (eu f a b).toInt.natAbs ≤ b.toInt.natAbs ∧ eu f a b ≠ 0) ∧ (b = 0 → eu f a b = a)
  | 0, a, b, h => ⟨fun hb => absurd h hb, fun _ => rfl⟩
  | f + 1, a, b, h => by
    show (b ≠ 0 → (if b = 0 then a else eu f b (a - a / b * b)).toInt.natAbs ≤ b.toInt.natAbs ∧ (if b = 0 then a else eu f b (a - a / b * b)) ≠ 0) ∧ (b = 0 → (if b = 0 then a else eu f b (a - a / b * b)) = a)
    refine ⟨fun hb => ?_, fun hb => if_pos hb⟩
    rw [if_neg hb]
    have h' : euH f b (a - a / b * b) := h.elim (fun hh => absurd hh hb) id
    obtain ⟨i1, i2⟩ := eu_b f _ _ h'
    by_cases h0 : a - a / b * b = 0
    · rw [i2 h0]
      exact ⟨Nat.le_refl _, hb⟩
    · obtain ⟨j1, j2⟩ := i1 h0
      refine ⟨Nat.le_trans j1 ?_, j2⟩
      rw [mod_nat a b hb]
      exact Nat.le_of_lt (Nat.mod_lt _ (by have := ne0_nat.mp hb; omega))
theorem eu_a (f : Nat) {a b : Int64} (h : euH (f + 1) a b) (ha : a ≠ 0) : (eu (f + 1) a b).toInt.natAbs ≤ a.toInt.natAbs := by
  show (if b = 0 then a else eu f b (a - a / b * b)).toInt.natAbs ≤ _
  by_cases hb : b = 0
  · rw [if_pos hb]; exact Nat.le_refl _
  · rw [if_neg hb]
    have h' : euH f b (a - a / b * b) := h.elim (fun hh => absurd hh hb) id
    obtain ⟨i1, i2⟩ := eu_b f _ _ h'
    by_cases h0 : a - a / b * b = 0
    · rw [i2 h0]
      have e := mod_nat a b hb
      rw [h0] at e
      have e0 : (0 : Int64).toInt.natAbs = 0 := rfl
      rw [e0] at e
      exact Nat.le_of_dvd (by have := ne0_nat.mp ha; omega) (Nat.dvd_of_mod_eq_zero e.symm)
    · refine Nat.le_trans (i1 h0).1 ?_
      rw [mod_nat a b hb]
      exact Nat.mod_le _ _
theorem absJ_n (x : Int64) : (absJ x).toInt.natAbs = x.toInt.natAbs := by
  unfold absJ
  by_cases h : x < 0
  · rw [if_pos h, Int64.toInt_neg]
    have h1 := x.le_toInt
    have h2 := x.toInt_lt
    by_cases h3 : x.toInt = -9223372036854775808
    · rw [h3]; decide
    · rw [bm63 (by omega) (by omega)]; omega
  · rw [if_neg h]
theorem absJ_0 {x : Int64} : absJ x = 0 ↔ x = 0 := by
  have h := absJ_n x
  refine ⟨fun hh => ?_, fun hh => ?_⟩
  · apply Classical.byContradiction
    intro h2
    have := ne0_nat.mp h2
    rw [hh] at h
    exact this (h.symm.trans rfl)
  · rw [hh]; rfl
theorem cmV_b {x y : Int64} : (y ≠ 0 → (cmV x y).toInt.natAbs ≤ y.toInt.natAbs) ∧ (x ≠ 0 → (cmV x y).toInt.natAbs ≤ x.toInt.natAbs) ∧ (cmV x y = 0 ↔ x = 0 ∧ y = 0) := by
  have hh := euH_200 (absJ x) (absJ y)
  obtain ⟨i1, i2⟩ := eu_b 200 _ _ hh
  refine ⟨fun hy => ?_, fun hx => ?_, ?_⟩
  · rw [← absJ_n y]
    exact (i1 (fun h => hy (absJ_0.mp h))).1
  · rw [← absJ_n x]
    exact eu_a 199 hh (fun h => hx (absJ_0.mp h))
  · refine ⟨fun h => ?_, fun h => ?_⟩
    · by_cases hy : y = 0
      · refine ⟨?_, hy⟩
        have h1 := i2 (absJ_0.mpr hy)
        exact absJ_0.mp (h1.symm.trans h)
      · exact absurd h (i1 (fun h => hy (absJ_0.mp h))).2
    · show eu 200 (absJ x) (absJ y) = 0
      rw [i2 (absJ_0.mpr h.2)]
      exact absJ_0.mpr h.1
theorem abs_okC (x : Int64) : gJ9_abs_067f4 x = some (absJ x) := by
  unfold gJ9_abs_067f4 absJ
  by_cases h : x < 0
  · rw [if_pos h, if_neg (fun hh => by
      have := (lg_cmp_ge _ _).mp hh
      exact absurd h (Int64.not_lt.mpr this))]
  · rw [if_neg h, if_pos ((lg_cmp_ge _ _).mpr (Int64.not_lt.mp h))]
theorem abs_okM (x : Int64) : gX12_sizeOf x = some (absJ x) := abs_okC x
theorem comC (x y : Int64) : gX5_commonDivisor x y = some (cmV x y) := by
  unfold gX5_commonDivisor
  rw [abs_okC, abs_okC, zbj_s, zbj_s]
  unfold cmV
  generalize absJ x = a
  generalize absJ y = b
  have hgo : ∀ (f k : Nat) (a b : Int64) (fu : Nat), k + f = 200 → f < fu → zlp (fun (_ : Int64) (_ : Int64) (_ : Int32) => (none : Option (Int64))) gX5_commonDivisor_L1 fu a b (nI k) = some (eu f a b) := by
    intro f
    induction f with
    | zero =>
      intro k a b fu hk hfu
      obtain ⟨fu, rfl⟩ : ∃ f, fu = f + 1 := ⟨fu - 1, by omega⟩
      have : k = 200 := by omega
      subst this
      show gX5_commonDivisor_L1 _ a b (nI 200) = _
      unfold gX5_commonDivisor_L1
      rw [if_pos (show (200 : Int32) ≤ nI 200 from Int32.le_refl _)]; rfl
    | succ f ih =>
      intro k a b fu hk hfu
      obtain ⟨fu, rfl⟩ : ∃ f, fu = f + 1 := ⟨fu - 1, by omega⟩
      show gX5_commonDivisor_L1 (zlp (fun (_ : Int64) (_ : Int64) (_ : Int32) => (none : Option (Int64))) gX5_commonDivisor_L1 fu) a b (nI k) = some (if b = 0 then a else eu f b (a - a / b * b))
      have ih' := ih (k + 1) b (a - a / b * b) fu (by omega) (by omega)
      generalize zlp (fun (_ : Int64) (_ : Int64) (_ : Int32) => (none : Option (Int64))) gX5_commonDivisor_L1 fu = Z at *
      unfold gX5_commonDivisor_L1
      rw [if_neg (show ¬ (200 : Int32) ≤ nI k from zge_n (b := 200) (by omega) (by omega))]
      by_cases hb : b = 0
      · rw [if_pos ((cmp0 _).mpr hb), if_pos hb]
      · rw [if_neg (fun hh => hb ((cmp0 _).mp hh)), if_neg hb, if_neg hb, zlt_, ← nI_sc, ih']
  exact hgo 200 0 a b zFU (by omega) (by unfold zFU; omega)
theorem comM (x y : Int64) : gX12_common x y = some (cmV x y) := by
  unfold gX12_common
  rw [abs_okM, abs_okM, zbj_s, zbj_s]
  unfold cmV
  generalize absJ x = a
  generalize absJ y = b
  have hgo : ∀ (f : Nat) (a b : Int64) (fu : Nat), euH f a b → f < fu → zlp (fun (_ : Int64) (_ : Int64) => (none : Option (Int64))) gX12_common_L1 fu a b = some (eu f a b) := by
    intro f
    induction f with
    | zero =>
      intro a b fu hb hfu
      obtain ⟨fu, rfl⟩ : ∃ f, fu = f + 1 := ⟨fu - 1, by omega⟩
      have hb : b = 0 := hb
      show gX12_common_L1 _ a b = _
      unfold gX12_common_L1
      rw [if_pos ((cmp0 _).mpr hb)]; rfl
    | succ f ih =>
      intro a b fu hb hfu
      obtain ⟨fu, rfl⟩ : ∃ f, fu = f + 1 := ⟨fu - 1, by omega⟩
      show gX12_common_L1 (zlp (fun (_ : Int64) (_ : Int64) => (none : Option (Int64))) gX12_common_L1 fu) a b = some (if b = 0 then a else eu f b (a - a / b * b))
      by_cases h0 : b = 0
      · unfold gX12_common_L1
        rw [if_pos ((cmp0 _).mpr h0), if_pos h0]
      · have ih' := ih b (a - a / b * b) fu (hb.elim (fun hh => absurd hh h0) id) (by omega)
        generalize zlp (fun (_ : Int64) (_ : Int64) => (none : Option (Int64))) gX12_common_L1 fu = Z at *
        unfold gX12_common_L1
        rw [if_neg (fun hh => h0 ((cmp0 _).mp hh)), if_neg h0, if_neg h0, zlt_, ih']
  exact hgo 200 a b zFU (euH_200 a b) (by unfold zFU; omega)
