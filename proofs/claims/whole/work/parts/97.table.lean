/-! the table of a sector: the class turns each head, the reference goes through all states -/
theorem sF_add (F G : Nat → Int64) : ∀ l : List Nat, sF (fun x => F x + G x) l = sF F l + sF G l
  | [] => by show (0 : Int64) = 0 + 0; rfl
  | x :: l => by
    show F x + G x + sF (fun x => F x + G x) l = (F x + sF F l) + (G x + sF G l)
    rw [sF_add F G l]; grind
theorem sF_z {F : Nat → Int64} : ∀ l : List Nat, (∀ x ∈ l, F x = 0) → sF F l = 0
  | [], _ => rfl
  | x :: l, h => by
    show F x + sF F l = 0
    rw [h x List.mem_cons_self, sF_z l (fun y hy => h y (List.mem_cons_of_mem _ hy))]; rfl
theorem sF_one (F : Nat → Int64) (t : Nat) : ∀ z, sF (fun x => if x = t then F x else 0) (List.range z) = if t < z then F t else 0
  | 0 => by rw [if_neg (Nat.not_lt_zero t)]; rfl
  | z + 1 => by
    rw [sF_range, sF_one F t z]
    by_cases h : t < z
    · rw [if_pos h, if_neg (show ¬ z = t by omega), if_pos (by omega)]; grind
    · rw [if_neg h]
      by_cases e : z = t
      · rw [if_pos e, if_pos (by omega), e]; grind
      · rw [if_neg e, if_neg (by omega)]; grind
theorem sF_perm (F : Nat → Int64) (z : Nat) : ∀ l : List Nat, l.Nodup → (∀ x ∈ l, x < z) → sF (fun s => if s ∈ l then F s else 0) (List.range z) = sF F l
  | [], _, _ => sF_z _ (fun x _ => if_neg (by simp))
  | a :: l, hd, hl => by
    have hd' := List.nodup_cons.mp hd
    have e : (fun s => if s ∈ a :: l then F s else 0) = fun s => (if s = a then F s else 0) + (if s ∈ l then F s else 0) := by
      funext s
      by_cases h1 : s = a
      · rw [if_pos (h1 ▸ List.mem_cons_self), if_pos h1, if_neg (h1 ▸ hd'.1)]; grind
      · rw [if_neg h1]
        by_cases h2 : s ∈ l
        · rw [if_pos (List.mem_cons_of_mem _ h2), if_pos h2]; grind
        · rw [if_neg (fun hh => (List.mem_cons.mp hh).elim h1 h2), if_neg h2]; grind
    rw [e, sF_add, sF_one, if_pos (hl a List.mem_cons_self), sF_perm F z l hd'.2 (fun x hx => hl x (List.mem_cons_of_mem _ hx))]
    rfl
noncomputable def hdA (N r m g i : Nat) : Nat := (hdL N r m g).getD i 0
noncomputable def tbT (N r : Nat) (e d : Int32) (m g i j k : Nat) : Int64 := (nI (sgC g k) * aSum N e d (tuP N r (hdA N r m g j) k) (hdA N r m g i) (chP N r)).toInt64
noncomputable def tbV (N r : Nat) (e d : Int32) (m g i j : Nat) : Int64 := sF (tbT N r e d m g i j) (List.range (olN N r (hdA N r m g j)))
theorem hdA_s {N r m g i : Nat} (hi : i < (hdL N r m g).length) : (hdL N r m g)[i]? = some (hdA N r m g i) := by
  unfold hdA
  rw [List.getD_eq_getElem?_getD, List.getElem?_eq_getElem hi]; rfl
theorem hdA_lt {N r m g i : Nat} (hi : i < (hdL N r m g).length) : hdA N r m g i < 2 ^ N := by
  have h1 := List.mem_of_getElem? (hdA_s hi)
  unfold hdL at h1
  exact List.mem_range.mp (List.mem_filter.mp h1).1
theorem d10 {i j : Nat} (hj : j < 10) : (10 * i + j) / 10 = i ∧ (10 * i + j) % 10 = j := by omega
/-- the reference's row after s states, and i rows of the next one -/
def rwG (I : Nat → Nat → Int32) (t : Nat → Nat → Int64) (n : Nat) (g0 : Nat → Int64) (s i : Nat) : Nat → Int64 := fun y => if y / 10 < n then sF (fun x => if I 2 x = nI (y % 10) then t (y / 10) x else 0) (List.range s) + (if y / 10 < i ∧ I 2 s = nI (y % 10) then t (y / 10) s else 0) else g0 y
theorem rwG_s {I : Nat → Nat → Int32} (t : Nat → Nat → Int64) {n : Nat} (g0 : Nat → Int64) {s i oo : Nat} (hi : i < n) (ho : oo < 10) (hI : I 2 s = nI oo) : updJ (rwG I t n g0 s i) (10 * i + oo) (rwG I t n g0 s i (10 * i + oo) + t i s) = rwG I t n g0 s (i + 1) := by
  obtain ⟨d1, d2⟩ := d10 (i := i) ho
  funext y
  unfold updJ rwG
  by_cases h : y = 10 * i + oo
  · rw [if_pos h, h, d1, d2, if_pos hi, if_pos hi, if_neg (fun hh => by omega), if_pos ⟨by omega, hI⟩]; grind
  · rw [if_neg h]
    by_cases h1 : y / 10 < n
    · rw [if_pos h1, if_pos h1]
      by_cases h2 : y / 10 < i ∧ I 2 s = nI (y % 10)
      · rw [if_pos h2, if_pos ⟨by omega, h2.2⟩]
      · rw [if_neg h2, if_neg (fun hh => by
          have h3 : y / 10 = i := by
            apply Classical.byContradiction
            intro h4
            exact h2 ⟨by omega, hh.2⟩
          have h5 := (nI_inj (by omega) (by omega)).mp (hI.symm.trans hh.2)
          omega)]
    · rw [if_neg h1, if_neg h1]
theorem rwG_n {I : Nat → Nat → Int32} (t : Nat → Nat → Int64) {n : Nat} (g0 : Nat → Int64) {s : Nat} : rwG I t n g0 s n = rwG I t n g0 (s + 1) 0 := by
  funext y
  unfold rwG
  by_cases h1 : y / 10 < n
  · rw [if_pos h1, if_pos h1, sF_range, if_neg (show ¬ (y / 10 < 0 ∧ I 2 (s + 1) = nI (y % 10)) by omega)]
    by_cases h2 : I 2 s = nI (y % 10)
    · rw [if_pos ⟨h1, h2⟩, if_pos h2]; grind
    · rw [if_neg (fun hh => h2 hh.2), if_neg h2]; grind
  · rw [if_neg h1, if_neg h1]
theorem rwG_0 {I : Nat → Nat → Int32} (t : Nat → Nat → Int64) {n : Nat} (g0 : Nat → Int64) {s : Nat} (hI : I 2 s < 0) : rwG I t n g0 s 0 = rwG I t n g0 (s + 1) 0 := by
  rw [← rwG_n]
  funext y
  unfold rwG
  rw [if_neg (show ¬ (y / 10 < 0 ∧ I 2 s = nI (y % 10)) by omega), if_neg (show ¬ (y / 10 < n ∧ I 2 s = nI (y % 10)) from fun hh => nI_pos (n := y % 10) (by omega) (hh.2 ▸ hI))]
theorem rwG_z {I : Nat → Nat → Int32} (t : Nat → Nat → Int64) {n : Nat} (hn : n ≤ 10) (f : Nat → Int64) : rwG I t n (z0f f 100) 0 0 = z0f f 100 := by
  funext y
  unfold rwG z0f
  by_cases h1 : y / 10 < n
  · rw [if_pos h1, if_pos (show y < 100 by omega), if_neg (by omega)]; rfl
  · rw [if_neg h1]
theorem rwG_v {I : Nat → Nat → Int32} {N r m g : Nat} {e d : Int32} (hN : N ≤ 8) (hI : lyI I N r m g) (hn : (hdL N r m g).length ≤ 10) (g0 : Nat → Int64) {i j : Nat} (hi : i < (hdL N r m g).length) (hj : j < (hdL N r m g).length) : rwG I (fun i s => (I 3 s * aSum N e d s (hdA N r m g i) (chP N r)).toInt64) (hdL N r m g).length g0 (2 ^ N) 0 (10 * i + j) = tbV N r e d m g i j := by
  obtain ⟨d1, d2⟩ := d10 (i := i) (j := j) (by omega)
  unfold rwG
  rw [d1, d2, if_pos hi, if_neg (show ¬ (i < 0 ∧ I 2 (2 ^ N) = nI j) by omega)]
  obtain ⟨-, -, k1, k2⟩ := hI
  obtain ⟨-, a2, a3⟩ := k1 j _ (hdA_s hj)
  have h1 : ∀ s ∈ List.range (2 ^ N), (if I 2 s = nI j then (I 3 s * aSum N e d s (hdA N r m g i) (chP N r)).toInt64 else 0) = if s ∈ (List.range (olN N r (hdA N r m g j))).map (tuP N r (hdA N r m g j)) then (I 3 s * aSum N e d s (hdA N r m g i) (chP N r)).toInt64 else 0 := by
    intro s hs
    by_cases h2 : I 2 s = nI j
    · rw [if_pos h2]
      rcases k2 s (List.mem_range.mp hs) with h3 | ⟨i', x, k, b1, b2, b3, b4⟩
      · rw [h2] at h3
        exact absurd h3 (nI_pos (by omega))
      · have e1 : i' = j := by
          have hi' : i' < (hdL N r m g).length := by
            apply Classical.byContradiction
            intro hh
            rw [List.getElem?_eq_none (by omega)] at b1
            cases b1
          exact (nI_inj (by omega) (by omega)).mp (b2.symm.trans h2)
        subst e1
        have e2 : x = hdA N r m g i' := Option.some.inj (b1.symm.trans (hdA_s hj))
        subst e2
        rw [if_pos (List.mem_map.mpr ⟨k, List.mem_range.mpr b3, b4.symm⟩)]
    · rw [if_neg h2, if_neg (fun hh => by
        obtain ⟨k, c1, c2⟩ := List.mem_map.mp hh
        exact h2 (c2 ▸ (a2 k (List.mem_range.mp c1)).1))]
  rw [sF_cg _ h1, sF_perm _ _ _ a3 (fun x hx => by
    obtain ⟨k, c1, c2⟩ := List.mem_map.mp hx
    exact c2 ▸ (a2 k (List.mem_range.mp c1)).2.2), sF_map]
  unfold tbV
  rw [sF_cg (G := tbT N r e d m g i j) _ (fun k hk => by
    show (I 3 (tuP N r (hdA N r m g j) k) * _).toInt64 = _
    rw [(a2 k (List.mem_range.mp hk)).2.1]; rfl)]
  grind
theorem zeroM {I : Nat → Nat → Int32} (J : Nat → Nat → Int64) (K : Zh → Option Zh) : zlp (fun (_ : Int32) (_ : Zh) => (none : Option (Zh))) (gX12_layTable_L5 0 K) zFU 0 (mH I J) = K (mH I (zW J 5 (z0f (J 5) 100))) := by
  have hh := zlp_it (R := Option Zh) (z := fun (_ : Int32) (_ : Zh) => (none : Option (Zh))) (F := gX12_layTable_L5 0 K) (fun i (F : Int32 → Zh → Option Zh) => F (nI i) (mH I (zW J 5 (z0f (J 5) i)))) (K (mH I (zW J 5 (z0f (J 5) 100)))) 100 ?_ ?_ zFU (by unfold zFU; omega)
  · have e : z0f (J 5) 0 = J 5 := funext fun y => if_neg (Nat.not_lt_zero y)
    rw [e, zW_self] at hh
    exact hh
  · intro i hi rr
    show gX12_layTable_L5 0 K rr (nI i) (mH I (zW J 5 (z0f (J 5) i))) = rr (nI (i + 1)) (mH I (zW J 5 (z0f (J 5) (i + 1))))
    have hs' : updJ (z0f (J 5) i) i 0 = z0f (J 5) (i + 1) := by
      funext y
      unfold updJ z0f
      by_cases h1 : y = i
      · rw [if_pos h1, if_pos (by omega)]
      · rw [if_neg h1]
        by_cases h2 : y < i
        · rw [if_pos h2, if_pos (by omega)]
        · rw [if_neg h2, if_neg (by omega)]
    unfold gX12_layTable_L5
    rw [if_neg (show ¬ (100 : Int32) ≤ nI i from zge_n (b := 100) hi (by omega)), zlt_, mR_10, zob_s, min_ (mL_5 _ _) hi (by omega), zg_1, zlt_, zx_nI (by omega), msJ, zW_J, hs', ← nI_sc]
  · intro rr
    show gX12_layTable_L5 0 K rr (nI 100) _ = _
    unfold gX12_layTable_L5
    rw [if_pos (show (100 : Int32) ≤ nI 100 from Int32.le_refl _)]
theorem layTable_ok {I : Nat → Nat → Int32} (J : Nat → Nat → Int64) {N r m g : Nat} {e d : Int32} (hc : mcAt (mH I J) N r e d) (h2 : 2 ≤ N) (hN : N ≤ 8) (hr : r ≤ 1) (hI : lyI I N r m g) (hn : (hdL N r m g).length ≤ 10) : ∃ J', gX12_layTable (mH I J) 0 = some (mH I J') ∧ (∀ i j, i < (hdL N r m g).length → j < (hdL N r m g).length → J' 5 (10 * i + j) = tbV N r e d m g i j) ∧ ∀ a, a ≠ 5 → J' a = J a := by
  have h256 : 2 ^ N ≤ 2 ^ 8 := Nat.pow_le_pow_right (by decide) hN
  obtain ⟨sh, -, -⟩ := shl_fin N hN
  let t : Nat → Nat → Int64 := fun i s => (I 3 s * aSum N e d s (hdA N r m g i) (chP N r)).toInt64
  let G := rwG I t (hdL N r m g).length (z0f (J 5) 100)
  refine ⟨zW J 5 (G (2 ^ N) 0), ?_, fun i j hi hj => ?_, fun a ha => zW_n _ _ _ _ ha⟩
  · unfold gX12_layTable
    rw [zjn_, zeroM]
    unfold gX12_layTable_J4
    have hv := rwG_z (I := I) t hn (J 5)
    have h5 : ∀ g', zI (mH I (zW J 5 g')) 0 5 = nI (hdL N r m g).length := fun g' => hI.1
    have hsm : ∀ g', gX12_stateMany (mH I (zW J 5 g')) 0 = some (nI (2 ^ N)) := fun g' => by
      have h1 : zI (mH I (zW J 5 g')) 0 1 = nI N := hc.1
      unfold gX12_stateMany
      rw [h1, sh]
    have hin : ∀ s, s < 2 ^ N → ∀ K : Zh → Option Zh, zlp (fun (_ : Int32) (_ : Zh) => (none : Option (Zh))) (gX12_layTable_L2 0 (nI s) K) zFU 0 (mH I (zW J 5 (G s 0))) = K (mH I (zW J 5 (G (s + 1) 0))) := by
      intro s hs K
      rcases hI.2.2.2 s hs with hneg | ⟨oo, x, k, b1, b2, b3, b4⟩
      · have e0 : G s 0 = G (s + 1) 0 := rwG_0 t _ hneg
        refine (zlp_it (R := Option Zh) (z := fun (_ : Int32) (_ : Zh) => (none : Option (Zh))) (F := gX12_layTable_L2 0 (nI s) K) (fun i (F : Int32 → Zh → Option Zh) => F (nI i) (mH I (zW J 5 (G s 0)))) (K (mH I (zW J 5 (G (s + 1) 0)))) 0 (fun i hi => by omega) (fun rr => ?_) zFU (by unfold zFU; omega))
        show gX12_layTable_L2 0 (nI s) K rr (nI 0) (mH I (zW J 5 (G s 0))) = _
        rw [← e0]
        have v2 : zI (mH I (zW J 5 (G s 0))) 2 s < 0 := hneg
        unfold gX12_layTable_L2
        by_cases h0 : zI (mH I (zW J 5 (G s 0))) 0 5 ≤ nI 0
        · rw [if_pos h0]
        · rw [if_neg h0, zlt_, mR_7, zob_s, min_ (mL_2 _ _) (by omega) (by omega), zg_1, zx_nI (by omega), if_pos v2]
      · have hoo : oo < (hdL N r m g).length := by
          apply Classical.byContradiction
          intro hh
          rw [List.getElem?_eq_none (by omega)] at b1
          cases b1
        have hh := zlp_it (R := Option Zh) (z := fun (_ : Int32) (_ : Zh) => (none : Option (Zh))) (F := gX12_layTable_L2 0 (nI s) K) (fun i (F : Int32 → Zh → Option Zh) => F (nI i) (mH I (zW J 5 (G s i)))) (K (mH I (zW J 5 (G s (hdL N r m g).length)))) (hdL N r m g).length ?_ ?_ zFU (by unfold zFU; omega)
        · have e1 : G s (hdL N r m g).length = G (s + 1) 0 := rwG_n _ _
          rw [e1] at hh
          exact hh
        · intro i hi rr
          have v2 : zI (mH I (zW J 5 (G s i))) 2 s = nI oo := b2
          have v3 : zI (mH I (zW J 5 (G s i))) 3 s = I 3 s := rfl
          have v1 : zI (mH I (zW J 5 (G s i))) 1 i = nI (hdA N r m g i) := (hI.2.2.1 i _ (hdA_s hi)).1
          have vJ : ∀ k, zJ (mH I (zW J 5 (G s i))) 5 k = G s i k := fun k => congrFun (zW_e J 5 (G s i)) k
          have hx := hdA_lt hi
          have c1 : mcAt (mH I (zW J 5 (G s i))) N r e d := hc
          have ha := acts_ok (mH I (zW J 5 (G s i))) N s (hdA N r m g i) (chP N r) e d c1.1 c1.2.2.1 c1.2.2.2 (pairMany_ok c1 h2 hr) h2 hN (by unfold chP; split <;> omega) (by omega) (by omega)
          have e10 : (10 : Int32) * nI i + nI oo = nI (10 * i + oo) := by rw [nI_o 10, pk_mul, nI_add]
          have hs' : updJ (G s i) (10 * i + oo) (G s i (10 * i + oo) + (I 3 s * aSum N e d s (hdA N r m g i) (chP N r)).toInt64) = G s (i + 1) := rwG_s t _ hi (by omega) b2
          show gX12_layTable_L2 0 (nI s) K rr (nI i) (mH I (zW J 5 (G s i))) = rr (nI (i + 1)) (mH I (zW J 5 (G s (i + 1))))
          unfold gX12_layTable_L2
          rw [h5, if_neg (zge_n hi (by omega)), zlt_, mR_7, zob_s, min_ (mL_2 _ _) (show s < 256 by omega) (by omega), zg_1, zx_nI (show s < 2 ^ 31 by omega), v2, if_neg (nI_pos (by omega)), zlt_, mR_10, zlt_, zob_s, min_ (mL_2 _ _) (show s < 256 by omega) (by omega), zg_1, zlt_, v2, e10, zob_s, min_ (mL_5 _ _) (show 10 * i + oo < 100 by omega) (by omega), zg_1, zlt_, mR_8, zob_s, min_ (mL_3 _ _) (show s < 256 by omega) (by omega), zg_1, zlt_, mR_6, zob_s, min_ (mL_1 _ _) (show i < 256 by omega) (by omega), zg_1, zx_nI (show i < 2 ^ 31 by omega), v1, ha, zbi_s, zg_1, zlt_, zx_nI (show 10 * i + oo < 2 ^ 31 by omega), vJ, v3, msJ, zW_J, hs', ← nI_sc]
        · intro rr
          show gX12_layTable_L2 0 (nI s) K rr (nI (hdL N r m g).length) _ = _
          unfold gX12_layTable_L2
          rw [h5, if_pos (Int32.le_refl _)]
    have hh := zlp_it (R := Option Zh) (z := fun (_ : Int32) (_ : Zh) => (none : Option (Zh))) (F := gX12_layTable_L3 0) (fun s (F : Int32 → Zh → Option Zh) => F (nI s) (mH I (zW J 5 (G s 0)))) (some (mH I (zW J 5 (G (2 ^ N) 0)))) (2 ^ N) ?_ ?_ zFU (by unfold zFU; omega)
    · have e : G 0 0 = z0f (J 5) 100 := hv
      rw [e] at hh
      exact hh
    · intro s hs rr
      show gX12_layTable_L3 0 rr (nI s) (mH I (zW J 5 (G s 0))) = rr (nI (s + 1)) (mH I (zW J 5 (G (s + 1) 0)))
      unfold gX12_layTable_L3
      rw [hsm, zbi_s, if_neg (zge_n hs (by omega)), zjn_, hin s hs]
      unfold gX12_layTable_J1
      rw [← nI_sc]
    · intro rr
      show gX12_layTable_L3 0 rr (nI (2 ^ N)) _ = _
      unfold gX12_layTable_L3
      rw [hsm, zbi_s, if_pos (Int32.le_refl _)]
  · show zW J 5 (G (2 ^ N) 0) 5 (10 * i + j) = _
    rw [zW_e]
    exact rwG_v hN hI hn _ hi hj
/-- the class's row: j columns done, k turns of the next, i rows of the next turn -/
noncomputable def cwG (t : Nat → Nat → Nat → Int64) (ol : Nat → Nat) (n : Nat) (g0 : Nat → Int64) (j k i : Nat) : Nat → Int64 := fun y => if y / 10 < n then (if y % 10 < j then sF (t (y / 10) (y % 10)) (List.range (ol (y % 10))) else if y % 10 = j then sF (t (y / 10) j) (List.range k) + (if y / 10 < i then t (y / 10) j k else 0) else g0 y) else g0 y
section Cw
variable (t : Nat → Nat → Nat → Int64) (ol : Nat → Nat) {n : Nat} (g0 : Nat → Int64)
theorem cwG_s {j k i : Nat} (hi : i < n) (hj : j < 10) : updJ (cwG t ol n g0 j k i) (10 * i + j) (cwG t ol n g0 j k i (10 * i + j) + t i j k) = cwG t ol n g0 j k (i + 1) := by
  obtain ⟨d1, d2⟩ := d10 (i := i) hj
  funext y
  unfold updJ cwG
  by_cases h : y = 10 * i + j
  · rw [if_pos h, h, d1, d2, if_pos hi, if_neg (Nat.lt_irrefl _), if_pos rfl, if_neg (Nat.lt_irrefl _), if_pos hi, if_neg (Nat.lt_irrefl _), if_pos rfl, if_pos (by omega)]; grind
  · rw [if_neg h]
    by_cases h1 : y / 10 < n
    · rw [if_pos h1, if_pos h1]
      by_cases h2 : y % 10 < j
      · rw [if_pos h2, if_pos h2]
      · rw [if_neg h2, if_neg h2]
        by_cases h3 : y % 10 = j
        · rw [if_pos h3, if_pos h3]
          by_cases h4 : y / 10 < i
          · rw [if_pos h4, if_pos (by omega)]
          · rw [if_neg h4, if_neg (by omega)]
        · rw [if_neg h3, if_neg h3]
    · rw [if_neg h1, if_neg h1]
theorem cwG_k {j k : Nat} : cwG t ol n g0 j k n = cwG t ol n g0 j (k + 1) 0 := by
  funext y
  unfold cwG
  by_cases h1 : y / 10 < n
  · simp only [if_pos h1]
    by_cases h2 : y % 10 < j
    · simp only [if_pos h2]
    · simp only [if_neg h2]
      by_cases h3 : y % 10 = j
      · rw [if_pos h3, if_pos h3, if_neg (Nat.not_lt_zero _), sF_range]; grind
      · rw [if_neg h3, if_neg h3]
  · rw [if_neg h1, if_neg h1]
theorem cwG_j {j : Nat} (hg : ∀ y, y < 100 → g0 y = 0) (hn : n ≤ 10) : cwG t ol n g0 j (ol j) 0 = cwG t ol n g0 (j + 1) 0 0 := by
  funext y
  unfold cwG
  by_cases h1 : y / 10 < n
  · rw [if_pos h1, if_pos h1]
    by_cases h2 : y % 10 < j
    · rw [if_pos h2, if_pos (by omega)]
    · rw [if_neg h2]
      by_cases h3 : y % 10 = j
      · rw [if_pos h3, if_pos (show y % 10 < j + 1 by omega), if_neg (Nat.not_lt_zero _), h3]; grind
      · rw [if_neg h3, if_neg (by omega), hg y (by omega)]
        by_cases h4 : y % 10 = j + 1
        · rw [if_pos h4, if_neg (Nat.not_lt_zero _)]; rfl
        · rw [if_neg h4]
  · rw [if_neg h1, if_neg h1]
theorem cwG_0 (hg : ∀ y, y < 100 → g0 y = 0) (hn : n ≤ 10) : cwG t ol n g0 0 0 0 = g0 := by
  funext y
  unfold cwG
  by_cases h1 : y / 10 < n
  · rw [if_pos h1, if_neg (Nat.not_lt_zero _)]
    by_cases h3 : y % 10 = 0
    · rw [if_pos h3, if_neg (Nat.not_lt_zero _), hg y (by omega)]; rfl
    · rw [if_neg h3]
  · rw [if_neg h1]
theorem cwG_v {i j : Nat} (hi : i < n) (hj : j < n) (hn : n ≤ 10) : cwG t ol n g0 n 0 0 (10 * i + j) = sF (t i j) (List.range (ol j)) := by
  obtain ⟨d1, d2⟩ := d10 (i := i) (j := j) (by omega)
  unfold cwG
  rw [d1, d2, if_pos hi, if_pos hj]
end Cw
theorem sgC_s (g k : Nat) (hg : g ≤ 1) : nI (sgC g k) * nI (sgI g) = nI (sgC g (k + 1)) := by
  rcases (show g = 0 ∨ g = 1 by omega) with rfl | rfl
  · show nI 1 * nI 1 = nI 1
    decide
  · show nI (if k % 2 = 0 then 1 else 4294967295) * nI 4294967295 = nI (if (k + 1) % 2 = 0 then 1 else 4294967295)
    by_cases h : k % 2 = 0
    · rw [if_pos h, if_neg (by omega)]; decide
    · rw [if_neg h, if_pos (by omega)]; decide
theorem tuP_lt {N r : Nat} (h2 : 2 ≤ N) (hN : N ≤ 8) (hr : r ≤ 1) {x : Nat} (hx : x < 2 ^ N) : ∀ k, tuP N r x k < 2 ^ N
  | 0 => hx
  | k + 1 => (turn_all h2 hN hr (tuP_lt h2 hN hr hx k)).2.2
theorem fillTable_ok {h : Zh} {s c N r m g : Nat} {e d : Int32} (hs : seR h s) (rc : zR h s 10 = some c) (hc : chAt h c N r e d) (h2 : 2 ≤ N) (hN : N ≤ 8) (hr : r ≤ 1) (hg : g ≤ 1) (hd1 : -2 ≤ d.toInt) (hd2 : d.toInt ≤ 2) (k : seH (aI h s) N r m g) (hn : (hdL N r m g).length ≤ 10) : gX5_fillTable h s = some (wRJ h (s + 3) (cwG (tbT N r e d m g) (fun j => olN N r (hdA N r m g j)) (hdL N r m g).length (z0f (zJ h (s + 3)) 100) (hdL N r m g).length 0 0)) := by
  have h256 : 2 ^ N ≤ 2 ^ 8 := Nat.pow_le_pow_right (by decide) hN
  obtain ⟨-, k12, k13, kh⟩ := k
  rw [aI_i _ _ _ _ (by omega), Nat.add_zero] at k12 k13
  obtain ⟨r0, l0⟩ : zR h s 0 = some (s + 1) ∧ zL h (s + 1) = 38 := hs 0 (by omega)
  obtain ⟨r2, l2⟩ : zR h s 2 = some (s + 3) ∧ zL h (s + 3) = 100 := hs 2 (by omega)
  have hz : ∀ y, y < 100 → z0f (zJ h (s + 3)) 100 y = 0 := fun y hy => if_pos hy
  have hhd : ∀ i, i < (hdL N r m g).length → zI h (s + 1) i = nI (hdA N r m g i) := fun i hi => by
    have := kh i _ (hdA_s hi)
    rwa [aI_i _ _ _ _ (by omega)] at this
  have hlt : ∀ i, i < (hdL N r m g).length → hdA N r m g i < 2 ^ N := fun i hi => hdA_lt hi
  generalize hT : tbT N r e d m g = T
  have hT' : ∀ i j k, T i j k = (nI (sgC g k) * aSum N e d (tuP N r (hdA N r m g j) k) (hdA N r m g i) (chP N r)).toInt64 := fun i j k => by rw [← hT]; rfl
  generalize hn0 : (hdL N r m g).length = n at *
  let G := cwG T (fun j => olN N r (hdA N r m g j)) n (z0f (zJ h (s + 3)) 100)
  unfold gX5_fillTable
  rw [zlt_, r2, fillJ_ok l2 (by omega), zbV_s]
  have hin : ∀ j, j < n → ∀ k, ∀ K : Zh → Option Zh, zlp (fun (_ : Int32) (_ : Zh) => (none : Option (Zh))) (gX5_fillTable_L3 s (nI j) (nI (tuP N r (hdA N r m g j) k)) (nI (sgC g k)) K) zFU 0 (wRJ h (s + 3) (G j k 0)) = K (wRJ h (s + 3) (G j (k + 1) 0)) := by
    intro j hj k K
    have hh := zlp_it (R := Option Zh) (z := fun (_ : Int32) (_ : Zh) => (none : Option (Zh))) (F := gX5_fillTable_L3 s (nI j) (nI (tuP N r (hdA N r m g j) k)) (nI (sgC g k)) K) (fun i (F : Int32 → Zh → Option Zh) => F (nI i) (wRJ h (s + 3) (G j k i))) (K (wRJ h (s + 3) (G j k n))) n ?_ ?_ zFU (by unfold zFU; omega)
    · have e1 : G j k n = G j (k + 1) 0 := cwG_k _ _ _
      rw [e1] at hh
      exact hh
    · intro i hi rr
      have c1 : chAt (wRJ h (s + 3) (G j k i)) c N r e d := hc
      have ho := hop_ok c1 h2 hN hr hd1 hd2 _ _ (tuP_lt h2 hN hr (hlt j hj) k) (hlt i hi)
      have e10 : nI i * (10 : Int32) + nI j = nI (10 * i + j) := by rw [nI_o 10, pk_mul, nI_add, Nat.mul_comm]
      have hs' : updJ (G j k i) (10 * i + j) (G j k i (10 * i + j) + (nI (sgC g k) * aSum N e d (tuP N r (hdA N r m g j) k) (hdA N r m g i) (chP N r)).toInt64) = G j k (i + 1) := by
        rw [← hT']
        exact cwG_s _ _ _ hi (by omega)
      have q13 : zI (wRJ h (s + 3) (G j k i)) s 13 = nI n := k13
      have q2 : zR (wRJ h (s + 3) (G j k i)) s 2 = some (s + 3) := r2
      have q0 : zR (wRJ h (s + 3) (G j k i)) s 0 = some (s + 1) := r0
      have q10 : zR (wRJ h (s + 3) (G j k i)) s 10 = some c := rc
      have qh : zI (wRJ h (s + 3) (G j k i)) (s + 1) i = nI (hdA N r m g i) := hhd i hi
      have i1 : zin (nI (10 * i + j)) (zL (wRJ h (s + 3) (G j k i)) (s + 3)) = true := by rw [wRJ_L, l2]; exact zin_nI (by omega) (by omega)
      have i2 : zin (nI i) (zL (wRJ h (s + 3) (G j k i)) (s + 1)) = true := by rw [wRJ_L, l0]; exact zin_nI (by omega) (by omega)
      show gX5_fillTable_L3 s (nI j) (nI (tuP N r (hdA N r m g j) k)) (nI (sgC g k)) K rr (nI i) (wRJ h (s + 3) (G j k i)) = rr (nI (i + 1)) (wRJ h (s + 3) (G j k (i + 1)))
      unfold gX5_fillTable_L3
      rw [q13, if_neg (zge_n hi (by omega)), zlt_, zlt_, e10, q2, zob_s, i1, zg_1, zlt_, q10, zlt_, q0, zob_s, i2, zg_1, zob_s, zx_nI (show i < 2 ^ 31 by omega), qh, ho, zbi_s, zg_1, zlt_, zx_nI (show 10 * i + j < 2 ^ 31 by omega), wRJ_e, wRJ_s, hs', ← nI_sc]
    · intro rr
      have q13 : zI (wRJ h (s + 3) (G j k n)) s 13 = nI n := k13
      show gX5_fillTable_L3 s (nI j) (nI (tuP N r (hdA N r m g j) k)) (nI (sgC g k)) K rr (nI n) (wRJ h (s + 3) (G j k n)) = _
      unfold gX5_fillTable_L3
      rw [q13, if_pos (Int32.le_refl _)]
  have hmid : ∀ j, j < n → ∀ K : Zh → Option Zh, zlp (fun (_ : Int32) (_ : Int32) (_ : Int32) (_ : Zh) => (none : Option (Zh))) (gX5_fillTable_L4 s (nI j) (nI (olN N r (hdA N r m g j))) K) zFU (nI (hdA N r m g j)) 1 0 (wRJ h (s + 3) (G j 0 0)) = K (wRJ h (s + 3) (G (j + 1) 0 0)) := by
    intro j hj K
    have hol := olN_le N r (hdA N r m g j)
    have hh := zlp_it (R := Option Zh) (z := fun (_ : Int32) (_ : Int32) (_ : Int32) (_ : Zh) => (none : Option (Zh))) (F := gX5_fillTable_L4 s (nI j) (nI (olN N r (hdA N r m g j))) K) (fun k (F : Int32 → Int32 → Int32 → Zh → Option Zh) => F (nI (tuP N r (hdA N r m g j) k)) (nI (sgC g k)) (nI k) (wRJ h (s + 3) (G j k 0))) (K (wRJ h (s + 3) (G j (olN N r (hdA N r m g j)) 0))) (olN N r (hdA N r m g j)) ?_ ?_ zFU (by unfold zFU; omega)
    · have e1 : G j (olN N r (hdA N r m g j)) 0 = G (j + 1) 0 0 := cwG_j _ (fun j => olN N r (hdA N r m g j)) _ hz hn
      rw [e1] at hh
      have e2 : nI (sgC g 0) = 1 := by unfold sgC; split <;> rfl
      rw [e2] at hh
      exact hh
    · intro k hk rr
      show gX5_fillTable_L4 s (nI j) (nI (olN N r (hdA N r m g j))) K rr (nI (tuP N r (hdA N r m g j) k)) (nI (sgC g k)) (nI k) (wRJ h (s + 3) (G j k 0)) = rr (nI (tuP N r (hdA N r m g j) (k + 1))) (nI (sgC g (k + 1))) (nI (k + 1)) (wRJ h (s + 3) (G j (k + 1) 0))
      have c1 : chAt (wRJ h (s + 3) (G j (k + 1) 0)) c N r e d := hc
      have q10 : zR (wRJ h (s + 3) (G j (k + 1) 0)) s 10 = some c := rc
      have q12 : zI (wRJ h (s + 3) (G j (k + 1) 0)) s 12 = nI (sgI g) := k12
      unfold gX5_fillTable_L4
      rw [if_neg (zge_n hk (by omega)), zjn_, hin j hj k]
      unfold gX5_fillTable_J2
      rw [zlt_, q10, zob_s, turn_ok c1 h2 hN hr _ (tuP_lt h2 hN hr (hlt j hj) k), zbi_s, zlt_, q12, sgC_s g k hg, ← nI_sc]
      rfl
    · intro rr
      show gX5_fillTable_L4 s (nI j) (nI (olN N r (hdA N r m g j))) K rr _ _ (nI (olN N r (hdA N r m g j))) _ = _
      unfold gX5_fillTable_L4
      rw [if_pos (Int32.le_refl _)]
  have hh := zlp_it (R := Option Zh) (z := fun (_ : Int32) (_ : Zh) => (none : Option (Zh))) (F := gX5_fillTable_L5 s) (fun j (F : Int32 → Zh → Option Zh) => F (nI j) (wRJ h (s + 3) (G j 0 0))) (some (wRJ h (s + 3) (G n 0 0))) n ?_ ?_ zFU (by unfold zFU; omega)
  · have e1 : G 0 0 0 = z0f (zJ h (s + 3)) 100 := cwG_0 _ _ _ hz hn
    rw [e1] at hh
    exact hh
  · intro j hj rr
    have q13 : zI (wRJ h (s + 3) (G j 0 0)) s 13 = nI n := k13
    have q0 : zR (wRJ h (s + 3) (G j 0 0)) s 0 = some (s + 1) := r0
    have q10 : zR (wRJ h (s + 3) (G j 0 0)) s 10 = some c := rc
    have qh : zI (wRJ h (s + 3) (G j 0 0)) (s + 1) j = nI (hdA N r m g j) := hhd j hj
    have i2 : zin (nI j) (zL (wRJ h (s + 3) (G j 0 0)) (s + 1)) = true := by rw [wRJ_L, l0]; exact zin_nI (by omega) (by omega)
    have c1 : chAt (wRJ h (s + 3) (G j 0 0)) c N r e d := hc
    show gX5_fillTable_L5 s rr (nI j) (wRJ h (s + 3) (G j 0 0)) = rr (nI (j + 1)) (wRJ h (s + 3) (G (j + 1) 0 0))
    unfold gX5_fillTable_L5
    rw [q13, if_neg (zge_n hj (by omega)), zlt_, q0, zob_s, i2, zg_1, zlt_, zx_nI (show j < 2 ^ 31 by omega), qh, orbitLength_ok q10 c1 h2 hN hr (hlt j hj), zbi_s, zjn_, hmid j hj]
    unfold gX5_fillTable_J1
    rw [← nI_sc]
  · intro rr
    have q13 : zI (wRJ h (s + 3) (G n 0 0)) s 13 = nI n := k13
    show gX5_fillTable_L5 s rr (nI n) _ = _
    unfold gX5_fillTable_L5
    rw [q13, if_pos (Int32.le_refl _)]
