/-! how many lie above, how often, how many are whole, power sums -/
def zrN (f : Nat → Int) (n : Nat) : Nat → Nat → Nat
  | 0, k => k
  | u + 1, k => if f (n - k) = 0 then zrN f n u (k + 1) else k
def sgN (a : Int) : Int32 := if a < 0 then -1 else if a = 0 then 0 else 1
theorem sF_b62 {v : Int} (h : v.natAbs ≤ 4611686018427387904) : (oI v).toInt = v := oI_i (by omega) (by omega)
theorem signAt_ok {I : Nat → Nat → Int32} {J : Nat → Nat → Int64} {k : Nat} {a : Int} (hk : k < 11) (h9 : J 9 k = uO a) (h10 : J 10 k = lO a) (ha : a.natAbs ≤ 4611686018427387904) : gX12_signAt (mH I J) 0 (nI k) = some (sgN a) := by
  have q9 : zJ (mH I J) 9 k = uO a := h9
  have q10 : zJ (mH I J) 10 k = lO a := h10
  have u := uO_i (a := a) (by omega)
  have l := lO_i a
  have z : (0 : Int64).toInt = 0 := rfl
  have j9 : zin (nI k) (zL (mH I J) 9) = true := min_ (mL_9 _ _) hk (by omega)
  have j10 : zin (nI k) (zL (mH I J) 10) = true := min_ (mL_10 _ _) hk (by omega)
  have y1 : zx (nI k) = k := zx_nI (by omega)
  unfold gX12_signAt sgN
  rw [zlt_, mR_14, zob_s, j9, zg_1, y1, q9]
  by_cases h1 : a < 0
  · rw [if_pos h1, if_neg (fun hh => by
      have := (lg_cmp_ge _ _).mp hh
      rw [Int64.le_iff_toInt_le, u, z] at this
      omega)]
  · rw [if_neg h1, if_pos ((lg_cmp_ge _ _).mpr (by rw [Int64.le_iff_toInt_le, u, z]; omega)), zlt_, zob_s, j9, zg_1, zjn_, q9]
    by_cases h2 : (0 : Int32) < lg_cmp (uO a) 0
    · have := (lg_cmp_gt _ _).mp h2
      rw [Int64.lt_iff_toInt_lt, u, z] at this
      rw [if_pos h2, if_neg (by omega)]; rfl
    · have h3 : ¬ (0 : Int) < a / 1099511627776 := fun hh => h2 ((lg_cmp_gt _ _).mpr (by rw [Int64.lt_iff_toInt_lt, u, z]; exact hh))
      rw [if_neg h2, zlt_, mR_15, zob_s, j10, zg_1, q10]
      by_cases h4 : a = 0
      · rw [if_pos h4, if_pos ((lg_cmp_le _ _).mpr (by rw [Int64.le_iff_toInt_le, l, z]; omega))]
      · rw [if_neg h4, if_neg (fun hh => by
          have := (lg_cmp_le _ _).mp hh
          rw [Int64.le_iff_toInt_le, l, z] at this
          omega)]
        rfl
theorem zeros_ok {I : Nat → Nat → Int32} {J : Nat → Nat → Int64} {n : Nat} {f : Nat → Int} (hn : n ≤ 10) (hJ : ∀ k, k ≤ n → J 9 k = uO (f (n - k)) ∧ J 10 k = lO (f (n - k))) (hb : ∀ m, m ≤ n → (f m).natAbs ≤ 4611686018427387904) (h0 : f 0 ≠ 0) : gX12_zeros (mH I J) 0 = some (nI (zrN f n n 0)) := by
  have hgo : ∀ (u k fu : Nat), k + u = n → u < fu → zlp (fun (_ : Int32) => (none : Option (Int32))) (gX12_zeros_L1 (mH I J) 0) fu (nI k) = some (nI (zrN f n u k)) := by
    intro u
    induction u with
    | zero =>
      intro k fu hk hfu
      obtain ⟨fu, rfl⟩ : ∃ f, fu = f + 1 := ⟨fu - 1, by omega⟩
      have : k = n := by omega
      subst this
      show gX12_zeros_L1 (mH I J) 0 _ (nI k) = _
      unfold gX12_zeros_L1
      rw [signAt_ok (by omega) (hJ k (by omega)).1 (hJ k (by omega)).2 (hb _ (by omega)), zbi_s, Nat.sub_self, if_neg (by
        unfold sgN
        by_cases h1 : f 0 < 0
        · rw [if_pos h1]; decide
        · rw [if_neg h1, if_neg h0]; decide)]
      rfl
    | succ u ih =>
      intro k fu hk hfu
      obtain ⟨fu, rfl⟩ : ∃ f, fu = f + 1 := ⟨fu - 1, by omega⟩
      show gX12_zeros_L1 (mH I J) 0 (zlp (fun (_ : Int32) => (none : Option (Int32))) (gX12_zeros_L1 (mH I J) 0) fu) (nI k) = some (nI (if f (n - k) = 0 then zrN f n u (k + 1) else k))
      have ih' := ih (k + 1) fu (by omega) (by omega)
      generalize zlp (fun (_ : Int32) => (none : Option (Int32))) (gX12_zeros_L1 (mH I J) 0) fu = Z at *
      unfold gX12_zeros_L1
      rw [signAt_ok (by omega) (hJ k (by omega)).1 (hJ k (by omega)).2 (hb _ (by omega)), zbi_s, ← nI_sc, ih']
      by_cases h1 : f (n - k) = 0
      · rw [if_pos h1, if_pos (by unfold sgN; rw [if_neg (by omega), if_pos h1])]
      · rw [if_neg h1, if_neg (by
          unfold sgN
          by_cases h2 : f (n - k) < 0
          · rw [if_pos h2]; decide
          · rw [if_neg h2, if_neg h1]; decide)]
  exact hgo n 0 zFU (by omega) (by unfold zFU; omega)
section Cls
variable {h : Zh} {s n : Nat} {p : Nat → Int64}
theorem rootsAt_ok (hs : seR h s) (hn : n ≤ 10) (h13 : zI h s 13 = nI n) (C X V P Q : Nat → Int64) (hC : ∀ k, k ≤ n → C k = p (n - k)) (x1 : Int32) (hb : ∀ m, m ≤ n → (shF x1.toInt n p m).natAbs ≤ 4611686018427387904) : gX5_rootsAt (s5 h s C X V P Q) s x1 = some (nI (zrN (shF x1.toInt n p) n n 0), s5 h s C (pre (n + 1) (fun k => oI (shF x1.toInt n p (n - k))) X) V P Q) := by
  obtain ⟨r4, l4⟩ : zR h s 4 = some (s + 5) ∧ zL h (s + 5) = 11 := hs 4 (by omega)
  unfold gX5_rootsAt
  rw [shiftBy_ok hs hn h13 C X V P Q hC x1, zbV_s]
  generalize hX : pre (n + 1) (fun k => oI (shF x1.toInt n p (n - k))) X = X'
  have hX' : ∀ k, k ≤ n → X' k = oI (shF x1.toInt n p (n - k)) := fun k hk => by rw [← hX, pre_i _ _ (by omega)]
  generalize shF x1.toInt n p = f at *
  have hgo : ∀ (u k fu : Nat), k + u = n → u < fu → zlp (fun (_ : Int32) => (none : Option (Int32 × Zh))) (gX5_rootsAt_L1 s (s5 h s C X' V P Q)) fu (nI k) = some (nI (zrN f n u k), s5 h s C X' V P Q) := by
    intro u
    induction u with
    | zero =>
      intro k fu hk hfu
      obtain ⟨fu, rfl⟩ : ∃ f, fu = f + 1 := ⟨fu - 1, by omega⟩
      have : k = n := by omega
      subst this
      show gX5_rootsAt_L1 s (s5 h s C X' V P Q) _ (nI k) = _
      unfold gX5_rootsAt_L1
      rw [s5_I, h13, if_pos (Int32.le_refl _)]
      rfl
    | succ u ih =>
      intro k fu hk hfu
      obtain ⟨fu, rfl⟩ : ∃ f, fu = f + 1 := ⟨fu - 1, by omega⟩
      show gX5_rootsAt_L1 s (s5 h s C X' V P Q) (zlp (fun (_ : Int32) => (none : Option (Int32 × Zh))) (gX5_rootsAt_L1 s (s5 h s C X' V P Q)) fu) (nI k) = some (nI (if f (n - k) = 0 then zrN f n u (k + 1) else k), s5 h s C X' V P Q)
      have ih' := ih (k + 1) fu (by omega) (by omega)
      generalize zlp (fun (_ : Int32) => (none : Option (Int32 × Zh))) (gX5_rootsAt_L1 s (s5 h s C X' V P Q)) fu = Z at *
      have j1 : zin (nI k) 11 = true := zin_nI (by omega) (by omega)
      have y1 : zx (nI k) = k := zx_nI (by omega)
      have hz : oI (f (n - k)) = 0 ↔ f (n - k) = 0 := by
        rw [← Int64.toInt_inj, sF_b62 (hb _ (by omega)), show (0 : Int64).toInt = 0 from rfl]
      unfold gX5_rootsAt_L1
      rw [s5_I, h13, if_neg (zge_n (show k < n by omega) (by omega)), zlt_, s5_R, r4, zob_s, s5_L, l4, j1, zg_1, y1, s5_5, hX' k (by omega), ← nI_sc, ih']
      by_cases h1 : f (n - k) = 0
      · rw [if_pos h1, if_pos ((cmp0 _).mpr (hz.mpr h1))]
      · rw [if_neg h1, if_neg (fun hh => h1 (hz.mp ((cmp0 _).mp hh)))]
  exact hgo n 0 zFU (by omega) (by unfold zFU; omega)
/-- changes of sign, from the top -/
def chS (f : Nat → Int) : Nat → Nat × Nat
  | 0 => (0, 0)
  | t + 1 => if f t = 0 then chS f t else if (f t < 0 ↔ (chS f t).2 = 1) then chS f t else ((chS f t).1 + 1, 1 - (chS f t).2)
theorem chS_b (f : Nat → Int) : ∀ t, (chS f t).2 ≤ 1 ∧ (chS f t).1 ≤ t
  | 0 => ⟨Nat.zero_le _, Nat.le_refl _⟩
  | t + 1 => by
    have h := chS_b f t
    show (if f t = 0 then chS f t else if (f t < 0 ↔ (chS f t).2 = 1) then chS f t else ((chS f t).1 + 1, 1 - (chS f t).2)).2 ≤ 1 ∧ (if f t = 0 then chS f t else if (f t < 0 ↔ (chS f t).2 = 1) then chS f t else ((chS f t).1 + 1, 1 - (chS f t).2)).1 ≤ t + 1
    split
    · omega
    · split
      · omega
      · exact ⟨by show 1 - _ ≤ 1; omega, by show _ + 1 ≤ _; omega⟩
theorem rootsAbove_ok (hs : seR h s) (hn : n ≤ 10) (h13 : zI h s 13 = nI n) (C X V P Q : Nat → Int64) (hC : ∀ k, k ≤ n → C k = p (n - k)) (x1 : Int32) (hb : ∀ m, m ≤ n → (shF x1.toInt n p m).natAbs ≤ 4611686018427387904) : gX5_rootsAbove (s5 h s C X V P Q) s x1 = some (nI (chS (shF x1.toInt n p) (n + 1)).1, s5 h s C (pre (n + 1) (fun k => oI (shF x1.toInt n p (n - k))) X) V P Q) := by
  obtain ⟨r4, l4⟩ : zR h s 4 = some (s + 5) ∧ zL h (s + 5) = 11 := hs 4 (by omega)
  unfold gX5_rootsAbove
  rw [shiftBy_ok hs hn h13 C X V P Q hC x1, zbV_s]
  generalize hX : pre (n + 1) (fun k => oI (shF x1.toInt n p (n - k))) X = X'
  have hX' : ∀ k, k ≤ n → X' k = oI (shF x1.toInt n p (n - k)) := fun k hk => by rw [← hX, pre_i _ _ (by omega)]
  generalize shF x1.toInt n p = f at *
  rw [zlt_, s5_I, h13]
  have hh := zlp_it (R := Option (Int32 × Zh)) (z := fun (_ : Int32) (_ : Int32) (_ : Int32) => (none : Option (Int32 × Zh))) (F := gX5_rootsAbove_L4 s (s5 h s C X' V P Q)) (fun t (F : Int32 → Int32 → Int32 → Option (Int32 × Zh)) => F (nI (chS f t).1) (nI (chS f t).2) (nI (n + 1 - t) - 1)) (some (nI (chS f (n + 1)).1, s5 h s C X' V P Q)) (n + 1) ?_ ?_ zFU (by unfold zFU; omega)
  · rw [show n + 1 - 0 = n + 1 by omega, nI_pred] at hh
    exact hh
  · intro t ht rr
    obtain ⟨k, hk⟩ : ∃ k, k = n - t := ⟨_, rfl⟩
    have ek : n + 1 - t = k + 1 := by omega
    have ek2 : n + 1 - (t + 1) = k := by omega
    have et : n - k = t := by omega
    show gX5_rootsAbove_L4 s (s5 h s C X' V P Q) rr (nI (chS f t).1) (nI (chS f t).2) (nI (n + 1 - t) - 1) = rr (nI (chS f (t + 1)).1) (nI (chS f (t + 1)).2) (nI (n + 1 - (t + 1)) - 1)
    rw [ek, ek2, nI_pred]
    have hcs : chS f (t + 1) = if f t = 0 then chS f t else if (f t < 0 ↔ (chS f t).2 = 1) then chS f t else ((chS f t).1 + 1, 1 - (chS f t).2) := rfl
    obtain ⟨b1, b2⟩ := chS_b f t
    generalize chS f t = q at *
    have j1 : zin (nI k) 11 = true := zin_nI (by omega) (by omega)
    have y1 : zx (nI k) = k := zx_nI (by omega)
    have hbt := sF_b62 (hb t (by omega))
    have z0 : (0 : Int64).toInt = 0 := rfl
    have hz : oI (f t) = 0 ↔ f t = 0 := by rw [← Int64.toInt_inj, hbt, z0]
    have hl : (0 : Int32) ≤ lg_cmp (oI (f t)) 0 ↔ ¬ f t < 0 := by rw [lg_cmp_ge, Int64.le_iff_toInt_le, hbt, z0]; omega
    have hv : X' k = oI (f t) := by rw [hX' k (by omega), et]
    have hJ1 : ∀ a b, gX5_rootsAbove_J1 (nI k) rr a b = rr a b (nI k - 1) := fun a b => by
      unfold gX5_rootsAbove_J1
      rw [show nI k + (-1) = nI k - 1 by grind]
    unfold gX5_rootsAbove_L4
    rw [if_neg (nI_pos (by omega)), zlt_, s5_R, r4, zob_s, s5_L, l4, j1, zg_1, zjn_, y1, s5_5, hv, hcs]
    by_cases h1 : f t = 0
    · rw [if_pos h1, if_pos ((cmp0 _).mpr (hz.mpr h1)), hJ1]
    · rw [if_neg h1, if_neg (fun hh => h1 (hz.mp ((cmp0 _).mp hh))), zlt_, zob_s, s5_L, l4, j1, zg_1, zjn_, s5_5, hv]
      have hJ3 : ∀ a : Nat, a ≤ 1 → gX5_rootsAbove_J3 (nI q.1) (nI q.2) (gX5_rootsAbove_J1 (nI k) rr) (nI a) = if a = q.2 then rr (nI q.1) (nI q.2) (nI k - 1) else rr (nI (q.1 + 1)) (nI (1 - q.2)) (nI k - 1) := fun a ha => by
        unfold gX5_rootsAbove_J3
        by_cases h2 : a = q.2
        · rw [if_pos (by rw [h2]), if_pos h2, hJ1]
        · rw [if_neg (fun hh => h2 ((nI_inj (by omega) (by omega)).mp hh)), if_neg h2, zjn_]
          unfold gX5_rootsAbove_J2
          rcases (show q.2 = 0 ∨ q.2 = 1 by omega) with e | e
          · rw [e, if_pos (show nI 0 = 0 from rfl), hJ1, ← nI_sc]; rfl
          · rw [e, if_neg (show ¬ nI 1 = 0 by decide), hJ1, ← nI_sc]; rfl
      by_cases h3 : f t < 0
      · rw [if_neg (fun hh => (hl.mp hh) h3)]
        refine (hJ3 1 (by omega)).trans ?_
        by_cases h4 : 1 = q.2
        · rw [if_pos h4, if_pos ⟨fun _ => h4.symm, fun _ => h3⟩]
        · rw [if_neg h4, if_neg (fun hh => h4 (hh.mp h3).symm)]
      · rw [if_pos (hl.mpr h3)]
        refine (hJ3 0 (by omega)).trans ?_
        by_cases h4 : 0 = q.2
        · rw [if_pos h4, if_pos ⟨fun hh => absurd hh h3, fun hh => by omega⟩]
        · rw [if_neg h4, if_neg (fun hh => h3 (hh.mpr (by omega)))]
  · intro rr
    show gX5_rootsAbove_L4 s (s5 h s C X' V P Q) rr _ _ (nI (n + 1 - (n + 1)) - 1) = _
    rw [Nat.sub_self]
    unfold gX5_rootsAbove_L4
    rw [if_pos (by decide)]
theorem valueAt_ok (hs : seR h s) (hn : n ≤ 10) (h13 : zI h s 13 = nI n) (C X V P Q : Nat → Int64) (hC : ∀ k, k ≤ n → C k = p (n - k)) (x1 : Int32) : gX5_valueAt (s5 h s C X V P Q) s x1 = some (oI (sZ x1.toInt (fun m => (p m).toInt) n)) := by
  obtain ⟨r3, l3⟩ : zR h s 3 = some (s + 4) ∧ zL h (s + 4) = 11 := hs 3 (by omega)
  unfold gX5_valueAt
  rw [zlt_, s5_I, h13]
  let v : Nat → Int64 := fun t => Nat.rec 0 (fun m _ => oI (sZ x1.toInt (fun m => (p m).toInt) m)) t
  have hh := zlp_it (R := Option Int64) (z := fun (_ : Int64) (_ : Int32) => (none : Option (Int64))) (F := gX5_valueAt_L1 (s5 h s C X V P Q) s x1) (fun t (F : Int64 → Int32 → Option Int64) => F (v t) (nI (n + 1 - t) - 1)) (some (oI (sZ x1.toInt (fun m => (p m).toInt) n))) (n + 1) ?_ ?_ zFU (by unfold zFU; omega)
  · rw [show n + 1 - 0 = n + 1 by omega, nI_pred] at hh
    exact hh
  · intro t ht rr
    obtain ⟨k, hk⟩ : ∃ k, k = n - t := ⟨_, rfl⟩
    have ek : n + 1 - t = k + 1 := by omega
    have ek2 : n + 1 - (t + 1) = k := by omega
    show gX5_valueAt_L1 (s5 h s C X V P Q) s x1 rr (v t) (nI (n + 1 - t) - 1) = rr (oI (sZ x1.toInt (fun m => (p m).toInt) t)) (nI (n + 1 - (t + 1)) - 1)
    rw [ek, ek2, nI_pred]
    have j1 : zin (nI k) 11 = true := zin_nI (by omega) (by omega)
    have y1 : zx (nI k) = k := zx_nI (by omega)
    have hv : v t * x1.toInt64 + p t = oI (sZ x1.toInt (fun m => (p m).toInt) t) := by
      cases t with
      | zero =>
        show 0 * x1.toInt64 + p 0 = oI (p 0).toInt
        rw [oI_t]; grind
      | succ t =>
        show oI (sZ x1.toInt (fun m => (p m).toInt) t) * x1.toInt64 + p (t + 1) = oI ((p (t + 1)).toInt + x1.toInt * sZ x1.toInt (fun m => (p m).toInt) t)
        rw [oI_add, oI_mul, oI_t, oI_c]; grind
    unfold gX5_valueAt_L1
    rw [if_neg (nI_pos (by omega)), zlt_, s5_R, r3, zob_s, s5_L, l3, j1, zg_1, zlt_, y1, s5_4, hC k (by omega), show n - k = t by omega, hv, show nI k + (-1) = nI k - 1 by grind]
  · intro rr
    show gX5_valueAt_L1 (s5 h s C X V P Q) s x1 rr _ (nI (n + 1 - (n + 1)) - 1) = _
    rw [Nat.sub_self]
    unfold gX5_valueAt_L1
    rw [if_pos (by decide)]
end Cls
theorem rZ_val (c : Int) (n : Nat) (x : Nat → Int) : ∀ i, rZ c n x (i + 1) n = sZ c x n
  | 0 => if_pos (Nat.le_refl _)
  | i + 1 => by
    show (if n ≤ n - (i + 1) then sZ c (rZ c n x (i + 1)) n else rZ c n x (i + 1) n) = _
    by_cases h : n ≤ n - (i + 1)
    · have : n = 0 := by omega
      subst this
      rw [if_pos h]
      exact rZ_val c 0 x i
    · rw [if_neg h]; exact rZ_val c n x i
theorem shF_val (c : Int) (n : Nat) (p : Nat → Int64) : shF c n p n = sZ c (fun m => (p m).toInt) n := by
  cases n with
  | zero => rfl
  | succ n => exact rZ_val c (n + 1) _ n
theorem rZ_top (c : Int) (n : Nat) (x : Nat → Int) : ∀ i, rZ c n x i 0 = x 0
  | 0 => rfl
  | i + 1 => (if_pos (Nat.zero_le _)).trans (rZ_top c n x i)
theorem aboveM {I : Nat → Nat → Int32} {J : Nat → Nat → Int64} {n : Nat} {f : Nat → Int} (h5 : I 0 5 = nI n) (hn : n ≤ 10) (hJ : ∀ k, k ≤ n → J 9 k = uO (f (n - k)) ∧ J 10 k = lO (f (n - k))) (hb : ∀ m, m ≤ n → (f m).natAbs ≤ 4611686018427387904) : zlp (fun (_ : Int32) (_ : Int32) (_ : Int32) => (none : Option (Int32 × Zh))) (gX12_above_L4 0 (mH I J)) zFU 0 1 (nI n) = some (nI (chS f (n + 1)).1, mH I J) := by
  let ls : Nat → Int32 := fun q => if q = 1 then -1 else 1
  have hh := zlp_it (R := Option (Int32 × Zh)) (z := fun (_ : Int32) (_ : Int32) (_ : Int32) => (none : Option (Int32 × Zh))) (F := gX12_above_L4 0 (mH I J)) (fun t (F : Int32 → Int32 → Int32 → Option (Int32 × Zh)) => F (nI (chS f t).1) (ls (chS f t).2) (nI (n + 1 - t) - 1)) (some (nI (chS f (n + 1)).1, mH I J)) (n + 1) ?_ ?_ zFU (by unfold zFU; omega)
  · rw [show n + 1 - 0 = n + 1 by omega, nI_pred] at hh
    exact hh
  · intro t ht rr
    obtain ⟨k, hk⟩ : ∃ k, k = n - t := ⟨_, rfl⟩
    have ek : n + 1 - t = k + 1 := by omega
    have ek2 : n + 1 - (t + 1) = k := by omega
    have et : n - k = t := by omega
    show gX12_above_L4 0 (mH I J) rr (nI (chS f t).1) (ls (chS f t).2) (nI (n + 1 - t) - 1) = rr (nI (chS f (t + 1)).1) (ls (chS f (t + 1)).2) (nI (n + 1 - (t + 1)) - 1)
    rw [ek, ek2, nI_pred]
    have hcs : chS f (t + 1) = if f t = 0 then chS f t else if (f t < 0 ↔ (chS f t).2 = 1) then chS f t else ((chS f t).1 + 1, 1 - (chS f t).2) := rfl
    obtain ⟨b1, b2⟩ := chS_b f t
    generalize chS f t = q at *
    have hsg : gX12_signAt (mH I J) 0 (nI k) = some (sgN (f t)) := by
      have := hJ k (by omega)
      rw [et] at this
      exact signAt_ok (by omega) this.1 this.2 (hb t (by omega))
    have hJ1 : ∀ (g x30 : Int32), gX12_above_J2 (nI q.1) (ls q.2) (nI k) rr g x30 = rr (nI q.1 + x30) (if g = 0 then ls q.2 else g) (nI k - 1) := fun g x30 => by
      unfold gX12_above_J2 gX12_above_J1
      rw [zlt_, zjn_, show nI k + (-1) = nI k - 1 by grind]
      by_cases h1 : g = 0
      · rw [if_pos h1, if_pos h1]
      · rw [if_neg h1, if_neg h1]
    unfold gX12_above_L4
    rw [if_neg (nI_pos (by omega)), hsg, zbi_s, zjn_, zjn_]
    unfold gX12_above_J3
    rw [hJ1, hJ1, hcs]
    have l0 : ls 0 = 1 := rfl
    have l1 : ls 1 = -1 := rfl
    have z0 : nI q.1 + 0 = nI q.1 := by grind
    have z1 : nI q.1 + 1 = nI (q.1 + 1) := (nI_sc _).symm
    by_cases h1 : f t = 0
    · have e : sgN (f t) = 0 := by unfold sgN; rw [if_neg (by omega), if_pos h1]
      rw [if_pos h1, e, if_pos rfl, if_pos rfl, z0]
    · rw [if_neg h1]
      by_cases h3 : f t < 0
      · have e : sgN (f t) = -1 := if_pos h3
        rw [e, if_neg (show ¬ (-1 : Int32) = 0 by decide), if_neg (show ¬ (-1 : Int32) = 0 by decide), z0, z1]
        rcases (show q.2 = 0 ∨ q.2 = 1 by omega) with e2 | e2
        · rw [if_neg (show ¬ (f t < 0 ↔ q.2 = 1) from fun hh => by have := hh.mp h3; omega), e2, l0, if_neg (show ¬ (-1 : Int32) = 1 by decide)]; rfl
        · rw [if_pos (show (f t < 0 ↔ q.2 = 1) from ⟨fun _ => e2, fun _ => h3⟩), e2, l1, if_pos rfl]
      · have e : sgN (f t) = 1 := by unfold sgN; rw [if_neg h3, if_neg h1]
        rw [e, if_neg (show ¬ (1 : Int32) = 0 by decide), if_neg (show ¬ (1 : Int32) = 0 by decide), z0, z1]
        rcases (show q.2 = 0 ∨ q.2 = 1 by omega) with e2 | e2
        · rw [if_pos (show (f t < 0 ↔ q.2 = 1) from ⟨fun hh => absurd hh h3, fun hh => by omega⟩), e2, l0, if_pos rfl]
        · rw [if_neg (show ¬ (f t < 0 ↔ q.2 = 1) from fun hh => h3 (hh.mpr e2)), e2, l1, if_neg (show ¬ (1 : Int32) = -1 by decide)]; rfl
  · intro rr
    show gX12_above_L4 0 (mH I J) rr _ _ (nI (n + 1 - (n + 1)) - 1) = _
    rw [Nat.sub_self]
    unfold gX12_above_L4
    rw [if_pos (by decide)]
