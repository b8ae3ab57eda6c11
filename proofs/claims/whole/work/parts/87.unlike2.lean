/-! unlike in the class -/
theorem wtX.ic {s : Nat} {h h' : Zh} {a k : Nat} {w : Wt} (m : icM s h h') (ha : a < s ∨ s + 9 < a) (hx : wtX h a k w) : wtX h' a k w :=
  ⟨(m.2.1 _).1.trans hx.1, (m.2.2.2.1 a _ ha).trans hx.2.1, (m.2.2.2.1 a _ ha).trans hx.2.2.1, (m.2.2.2.1 a _ ha).trans hx.2.2.2.1, (m.2.2.2.1 a _ ha).trans hx.2.2.2.2⟩
theorem nI_m20 (i j : Nat) : nI i * 20 + nI j = nI (20 * i + j) := by rw [nI_o 20, pk_mul, nI_add, Nat.mul_comm]
def msT (up t : Nat) : List Nat := (List.range t).filter (fun s => Nat.beq (pS s 8) up)
theorem msT_s (up t : Nat) : msT up (t + 1) = if pS t 8 = up then msT up t ++ [t] else msT up t := by
  unfold msT
  rw [List.range_succ, List.filter_append]
  by_cases h : pS t 8 = up
  · rw [if_pos h, List.filter_cons_of_pos (by rw [h]; exact Nat.beq_refl up)]; rfl
  · rw [if_neg h, List.filter_cons_of_neg (p := fun s => Nat.beq (pS s 8) up) (fun hh => h (Nat.eq_of_beq_eq_true hh)), List.filter_nil, List.append_nil]
theorem msT_le (up : Nat) {t t' : Nat} (h : t ≤ t') : (msT up t).length ≤ (msT up t').length := by
  obtain ⟨d, rfl⟩ : ∃ d, t' = t + d := ⟨t' - t, by omega⟩
  clear h
  induction d with
  | zero => exact Nat.le_refl _
  | succ d ih =>
    refine Nat.le_trans ih ?_
    show _ ≤ (msT up (t + d + 1)).length
    rw [msT_s]
    split
    · rw [List.length_append]; omega
    · exact Nat.le_refl _
def gaH (h : Zh) (s up : Nat) : Nat → Zh
  | 0 => h
  | t + 1 => if pS t 8 = up then zsI (gaH h s up t) (s + 1) (msT up t).length (nI t) else gaH h s up t
theorem gaH_ok (h : Zh) (s up : Nat) : ∀ t, icM s h (gaH h s up t) ∧ (∀ b k, zJ (gaH h s up t) b k = zJ h b k) ∧ ∀ i, i < (msT up t).length → zI (gaH h s up t) (s + 1) i = nI ((msT up t).getD i 0)
  | 0 => ⟨icM.rf s h, fun _ _ => rfl, fun i hi => absurd hi (Nat.not_lt_zero i)⟩
  | t + 1 => by
    obtain ⟨a1, a2, a3⟩ := gaH_ok h s up t
    show icM s h (if pS t 8 = up then zsI (gaH h s up t) (s + 1) (msT up t).length (nI t) else gaH h s up t) ∧ (∀ b k, zJ (if pS t 8 = up then zsI (gaH h s up t) (s + 1) (msT up t).length (nI t) else gaH h s up t) b k = zJ h b k) ∧ ∀ i, i < (msT up (t + 1)).length → zI (if pS t 8 = up then zsI (gaH h s up t) (s + 1) (msT up t).length (nI t) else gaH h s up t) (s + 1) i = nI ((msT up (t + 1)).getD i 0)
    rw [msT_s]
    by_cases e : pS t 8 = up
    · rw [if_pos e, if_pos e]
      refine ⟨a1.tr (icM.I _ _ _ _ (by omega)), a2, fun i hi => ?_⟩
      rw [zI_s]
      rw [List.length_append] at hi
      have hi : i < (msT up t).length + 1 := hi
      by_cases he : i = (msT up t).length
      · rw [if_pos ⟨rfl, he⟩, he, List.getD_eq_getElem?_getD, List.getElem?_append_right (Nat.le_refl _), Nat.sub_self]; rfl
      · rw [if_neg (fun hh => he hh.2), List.getD_eq_getElem?_getD, List.getElem?_append_left (by omega), ← List.getD_eq_getElem?_getD]
        exact a3 i (by omega)
    · rw [if_neg e, if_neg e]
      exact ⟨a1, a2, a3⟩
theorem gather_ok {h : Zh} {o : Nat → Nat} {s : Nat} (x : icS h o s) {n up : Nat} (hn : n ≤ 6) (hu : up ≤ n) : ∃ h', gX1_gather h s (nI n) (nI up) = some (nI (msL n up).length, h') ∧ icM s h h' ∧ (∀ b k, zJ h' b k = zJ h b k) ∧ ∀ i, i < (msL n up).length → zI h' (s + 1) i = nI ((msL n up).getD i 0) := by
  have h64 : 2 ^ n ≤ 2 ^ 6 := Nat.pow_le_pow_right (by decide) hn
  obtain ⟨sh, -, -⟩ := shl_fin n (by omega)
  obtain ⟨b1, b2, b3⟩ := gaH_ok h s up (2 ^ n)
  refine ⟨gaH h s up (2 ^ n), ?_, b1, b2, b3⟩
  unfold gX1_gather
  refine zlp_it (R := Option (Int32 × Zh)) (z := fun (_ : Int32) (_ : Int32) (_ : Zh) => (none : Option (Int32 × Zh))) (F := gX1_gather_L2 s (nI n) (nI up)) (fun t (F : Int32 → Int32 → Zh → Option (Int32 × Zh)) => F (nI (msT up t).length) (nI t) (gaH h s up t)) _ (2 ^ n) ?_ ?_ zFU (by unfold zFU; omega)
  · intro t ht r
    obtain ⟨a1, a2, a3⟩ := gaH_ok h s up t
    have hl20 : (msT up t).length ≤ 20 := Nat.le_trans (msT_le up (Nat.le_of_lt ht)) (ms_c hn hu).2.1
    show gX1_gather_L2 s (nI n) (nI up) r (nI (msT up t).length) (nI t) (gaH h s up t) = r (nI (msT up (t + 1)).length) (nI (t + 1)) (if pS t 8 = up then zsI (gaH h s up t) (s + 1) (msT up t).length (nI t) else gaH h s up t)
    unfold gX1_gather_L2
    rw [sh, if_neg (zge_n ht (by omega)), bitCount_ok (by omega), zbi_s, zjn_, msT_s]
    have hJ : ∀ c g, gX1_gather_J1 (nI t) r c g = r c (nI (t + 1)) g := fun c g => by unfold gX1_gather_J1; rw [← nI_sc]
    have hp8 := pS_le t 8
    by_cases e : pS t 8 = up
    · have hl : (msT up t).length < 20 := by
        have h1 : (msT up (t + 1)).length ≤ 20 := Nat.le_trans (msT_le up ht) (ms_c hn hu).2.1
        rw [msT_s, if_pos e, List.length_append] at h1
        exact h1
      have r0 : zR (gaH h s up t) s 0 = some (s + 1) := ((x.mv a1).2 0 (by omega)).1
      have l0 : zin (nI (msT up t).length) (zL (gaH h s up t) (s + 1)) = true := by
        have : zL (gaH h s up t) (s + 1) = 20 := ((x.mv a1).2 0 (by omega)).2
        rw [this]; exact zin_nI hl (by omega)
      rw [if_pos (by rw [e]), if_neg (show ¬ (20 : Int32) ≤ nI (msT up t).length from zge_n (b := 20) hl (by decide)), zlt_, r0, zob_s, l0, zg_1, zlt_, zx_nI (by omega), hJ, if_pos e, if_pos e, List.length_append]
      have : nI (msT up t).length + 1 = nI ((msT up t).length + [t].length) := by rw [← nI_sc]; rfl
      rw [this]
    · rw [if_neg (fun hh => e ((nI_inj (by omega) (by omega)).mp hh)), hJ, if_neg e, if_neg e]
  · intro r
    show gX1_gather_L2 s (nI n) (nI up) r _ (nI (2 ^ n)) _ = _
    unfold gX1_gather_L2
    rw [sh, if_pos (Int32.le_refl _)]
    rfl
theorem ms_at {n up i : Nat} (hn : n ≤ 6) (hi : i < (msL n up).length) : (msL n up).getD i 0 < 2 ^ n ∧ pS ((msL n up).getD i 0) 8 = up ∧ 2 ^ n ≤ 64 := by
  have h64 : 2 ^ n ≤ 2 ^ 6 := Nat.pow_le_pow_right (by decide) hn
  have e : (msL n up).getD i 0 = (msL n up)[i] := by rw [List.getD_eq_getElem?_getD, List.getElem?_eq_getElem hi]; rfl
  rw [e]
  obtain ⟨a, b⟩ := ms_mem.mp (List.getElem_mem hi)
  exact ⟨a, b, by omega⟩
abbrev blF (n up : Nat) (w : Wt) (i j : Nat) : Int64 := rowN w n ((msL n up).getD i 0) ((msL n up).getD j 0)
theorem fillBlock_ok {h : Zh} {o : Nat → Nat} {s a k r : Nat} {w : Wt} (x : icS h o s) (hv : wtOk w) (hx : wtX h a k w) {n up : Nat} (hn : n ≤ 6) (hu : up ≤ n) (hm : ∀ i, i < (msL n up).length → zI h (s + 1) i = nI ((msL n up).getD i 0)) (hr : r = s + 2 ∨ r = s + 3) : gX1_fillBlock h s (some a) (nI n) (nI (msL n up).length) (some r) = some (wRJ h r (grF 20 (msL n up).length (blF n up w) (zJ h r) (msL n up).length 0)) := by
  have hz : (msL n up).length ≤ 20 := (ms_c hn hu).2.1
  have lr : zL h r = 400 := by
    rcases hr with rfl | rfl
    · exact (x.2 1 (by omega)).2
    · exact (x.2 2 (by omega)).2
  obtain ⟨r0, l0⟩ : zR h s 0 = some (s + 1) ∧ zL h (s + 1) = 20 := x.2 0 (by omega)
  have hat := fun i hi => ms_at (n := n) (up := up) (i := i) hn hi
  generalize hzz : (msL n up).length = z at *
  let g := fun i j => grF 20 z (blF n up w) (zJ h r) i j
  unfold gX1_fillBlock
  have hin : ∀ (i : Nat), i < z → ∀ K : Zh → Option Zh, zlp (fun (_ : Int32) (_ : Zh) => (none : Option (Zh))) (gX1_fillBlock_L2 s (some a) (nI n) (nI z) (some r) (nI i) K) zFU 0 (wRJ h r (g i 0)) = K (wRJ h r (g (i + 1) 0)) := by
    intro i hi K
    have hh := zlp_it (R := Option Zh) (z := fun (_ : Int32) (_ : Zh) => (none : Option (Zh))) (F := gX1_fillBlock_L2 s (some a) (nI n) (nI z) (some r) (nI i) K) (fun j (F : Int32 → Zh → Option Zh) => F (nI j) (wRJ h r (g i j))) (K (wRJ h r (g i z))) z ?_ ?_ zFU (by unfold zFU; omega)
    · have e : g i z = g (i + 1) 0 := gr_r _ _ _
      rw [e] at hh
      exact hh
    · intro j hj rr
      have hs' : updJ (g i j) (20 * i + j) (blF n up w i j) = g i (j + 1) := gr_s _ _ hj hz
      have hx' : wtX (wRJ h r (g i j)) a k w := hx
      have ai := hat i hi
      have aj := hat j hj
      have hrow := rowX hv hx' (m := n) (s := (msL n up).getD i 0) (t := (msL n up).getD j 0) (by omega) (by omega) (by omega)
      have r0' : zR (wRJ h r (g i j)) s 0 = some (s + 1) := r0
      have m1 : zI (wRJ h r (g i j)) (s + 1) i = nI ((msL n up).getD i 0) := hm i hi
      have m2 : zI (wRJ h r (g i j)) (s + 1) j = nI ((msL n up).getD j 0) := hm j hj
      have i1 : zin (nI i) (zL h (s + 1)) = true := by rw [l0]; exact zin_nI (by omega) (by omega)
      have i2 : zin (nI j) (zL h (s + 1)) = true := by rw [l0]; exact zin_nI (by omega) (by omega)
      have i3 : zin (nI (20 * i + j)) (zL h r) = true := by rw [lr]; exact zin_nI (by omega) (by omega)
      show gX1_fillBlock_L2 s (some a) (nI n) (nI z) (some r) (nI i) K rr (nI j) (wRJ h r (g i j)) = rr (nI (j + 1)) (wRJ h r (g i (j + 1)))
      unfold gX1_fillBlock_L2
      rw [if_neg (zge_n hj (by omega)), zlt_, r0', zob_s, wRJ_L, i1, zg_1, zlt_, zob_s, wRJ_L, i2, zg_1, zx_nI (show i < 2 ^ 31 by omega), zx_nI (show j < 2 ^ 31 by omega), m1, m2, hrow, zbj_s, zob_s, nI_m20, wRJ_L, i3, zg_1, zx_nI (show 20 * i + j < 2 ^ 31 by omega), zlt_, wRJ_s, hs', ← nI_sc]
    · intro rr
      show gX1_fillBlock_L2 s (some a) (nI n) (nI z) (some r) (nI i) K rr (nI z) _ = _
      unfold gX1_fillBlock_L2
      rw [if_pos (Int32.le_refl _)]
  have hh := zlp_it (R := Option Zh) (z := fun (_ : Int32) (_ : Zh) => (none : Option (Zh))) (F := gX1_fillBlock_L3 s (some a) (nI n) (nI z) (some r)) (fun i (F : Int32 → Zh → Option Zh) => F (nI i) (wRJ h r (g i 0))) (some (wRJ h r (g z 0))) z ?_ ?_ zFU (by unfold zFU; omega)
  · have e : g 0 0 = zJ h r := grz_0 _ _
    rw [e, wRJ_self] at hh
    exact hh
  · intro i hi rr
    show gX1_fillBlock_L3 s (some a) (nI n) (nI z) (some r) rr (nI i) (wRJ h r (g i 0)) = rr (nI (i + 1)) (wRJ h r (g (i + 1) 0))
    unfold gX1_fillBlock_L3
    rw [if_neg (zge_n hi (by omega)), zjn_, hin i hi]
    unfold gX1_fillBlock_J1
    rw [← nI_sc]
  · intro rr
    show gX1_fillBlock_L3 s (some a) (nI n) (nI z) (some r) rr (nI z) _ = _
    unfold gX1_fillBlock_L3
    rw [if_pos (Int32.le_refl _)]
theorem sF_get (F : Nat → Int64) (l : List Nat) : sF (fun k => F (l.getD k 0)) (List.range l.length) = sF F l := by
  have e : (List.range l.length).map (fun k => l.getD k 0) = l := by
    refine List.ext_getElem (by simp) (fun i h1 h2 => ?_)
    simp [List.getD_eq_getElem?_getD, h2]
  have := sF_map F (fun k => l.getD k 0) (List.range l.length)
  rw [e] at this
  exact this.symm
theorem sN_get (F : Nat → Nat) (l : List Nat) : sN (fun k => F (l.getD k 0)) (List.range l.length) = sN F l := by
  have e : (List.range l.length).map (fun k => l.getD k 0) = l := by
    refine List.ext_getElem (by simp) (fun i h1 h2 => ?_)
    simp [List.getD_eq_getElem?_getD, h2]
  have := sN_map F (fun k => l.getD k 0) (List.range l.length)
  rw [e] at this
  exact this.symm
theorem product_ok {g : Zh} {r1 r2 z : Nat} (hz : z ≤ 20) (l1 : zL g r1 = 400) (l2 : zL g r2 = 400) {A B : Nat → Nat → Int64} (hA : ∀ i j, i < z → j < z → zJ g r1 (20 * i + j) = A i j) (hB : ∀ i j, i < z → j < z → zJ g r2 (20 * i + j) = B i j) {i j : Nat} (hi : i < z) (hj : j < z) : gX1_product g (some r1) (some r2) (nI z) (nI i) (nI j) = some (sF (fun k => A i k * B k j) (List.range z)) := by
  unfold gX1_product
  refine zlp_it (R := Option Int64) (z := fun (_ : Int64) (_ : Int32) => (none : Option (Int64))) (F := gX1_product_L1 g (some r1) (some r2) (nI z) (nI i) (nI j)) (fun k (F : Int64 → Int32 → Option Int64) => F (sF (fun k => A i k * B k j) (List.range k)) (nI k)) _ z ?_ ?_ zFU (by unfold zFU; omega)
  · intro k hk r
    show gX1_product_L1 g (some r1) (some r2) (nI z) (nI i) (nI j) r (sF (fun k => A i k * B k j) (List.range k)) (nI k) = r (sF (fun k => A i k * B k j) (List.range (k + 1))) (nI (k + 1))
    rw [sF_range]
    have i1 : zin (nI (20 * i + k)) (zL g r1) = true := by rw [l1]; exact zin_nI (by omega) (by omega)
    have i2 : zin (nI (20 * k + j)) (zL g r2) = true := by rw [l2]; exact zin_nI (by omega) (by omega)
    unfold gX1_product_L1
    rw [if_neg (zge_n hk (by omega)), zob_s, nI_m20, i1, zg_1, zob_s, nI_m20, i2, zg_1, zx_nI (show 20 * i + k < 2 ^ 31 by omega), zx_nI (show 20 * k + j < 2 ^ 31 by omega), hA i k hi hk, hB k j hk hj, zlt_, ← nI_sc]
  · intro r
    show gX1_product_L1 g (some r1) (some r2) (nI z) (nI i) (nI j) r _ (nI z) = _
    unfold gX1_product_L1
    rw [if_pos (Int32.le_refl _)]
theorem prM_get {v w : Wt} {n up i j : Nat} (hn : n ≤ 6) (hi : i < (msL n up).length) : sF (fun k => blF n up v i k * blF n up w k j) (List.range (msL n up).length) = prM n v w ((msL n up).getD i 0) ((msL n up).getD j 0) := by
  obtain ⟨a1, a2, -⟩ := ms_at hn hi
  rw [prM_blk hn a1, a2]
  exact sF_get (fun x => rowN v n ((msL n up).getD i 0) x * rowN w n x ((msL n up).getD j 0)) (msL n up)
theorem timesCounted_ok {n u : Nat} (hn : n ≤ 8) (hu : u ≤ 8) : gX1_timesCounted (nI n) (nI u) = some (nI (if 2 * u = n then 1 else 2)) := by
  have e : 2 * nI u = nI (2 * u) := by rw [nI_o 2, pk_mul]
  unfold gX1_timesCounted
  rw [e]
  by_cases h : 2 * u = n
  · rw [if_pos (by rw [h]), if_pos h]; rfl
  · rw [if_neg (fun hh => h ((nI_inj (by omega) (by omega)).mp hh)), if_neg h]; rfl
def unB (n : Nat) (v w : Wt) (u : Nat) : Nat := sN (fun s => sN (unl n v w s) (msL n u)) (msL n u)
theorem unlX {h : Zh} {o : Nat → Nat} {s a b ka kb : Nat} {v w : Wt} (x : icS h o s) (hv : wtOk v) (hw : wtOk w) (ha : a < s ∨ s + 9 < a) (hb : b < s ∨ s + 9 < b) (xa : wtX h a ka v) (xb : wtX h b kb w) {n : Nat} (h2 : 2 ≤ n) (hn : n ≤ 6) : ∃ h', gX1_countUnlike h s (some a) (some b) (nI n) = some (nI (hlf n (unB n v w) (n / 2 + 1)), h') ∧ icM s h h' := by
  unfold gX1_countUnlike
  have hgo : ∀ (d u : Nat) (g : Zh) (fu : Nat), u + d = n / 2 + 1 → d < fu → icM s h g → ∃ h', zlp (fun (_ : Int32) (_ : Int32) (_ : Zh) => (none : Option (Int32 × Zh))) (gX1_countUnlike_L6 s (some a) (some b) (nI n)) fu (nI (hlf n (unB n v w) u)) (nI u) g = some (nI (hlf n (unB n v w) (n / 2 + 1)), h') ∧ icM s h h' := by
    intro d
    induction d with
    | zero =>
      intro u g fu hu hfu m
      have : u = n / 2 + 1 := by omega
      subst this
      obtain ⟨fu, rfl⟩ : ∃ f, fu = f + 1 := ⟨fu - 1, by omega⟩
      refine ⟨g, ?_, m⟩
      show gX1_countUnlike_L6 s (some a) (some b) (nI n) _ _ (nI (n / 2 + 1)) _ = _
      unfold gX1_countUnlike_L6
      have e : 2 * nI (n / 2 + 1) = nI (2 * (n / 2 + 1)) := by rw [nI_o 2, pk_mul]
      rw [e, if_pos (nI_lt (by omega) (by omega))]
    | succ d ih =>
      intro u g fu hu hfu m
      obtain ⟨fu, rfl⟩ : ∃ f, fu = f + 1 := ⟨fu - 1, by omega⟩
      have hun : u ≤ n := by omega
      obtain ⟨g1, a1, a2, a3, a4⟩ := gather_ok (x.mv m) hn hun
      have m1 := m.tr a2
      have f1 := fillBlock_ok (x.mv m1) hv (xa.ic m1 ha) hn hun a4 (Or.inl rfl)
      generalize hzz : (msL n u).length = z at *
      have hz : z ≤ 20 := by rw [← hzz]; exact (ms_c hn hun).2.1
      generalize hg2 : wRJ g1 (s + 2) (grF 20 z (blF n u v) (zJ g1 (s + 2)) z 0) = g2 at f1
      have m2 : icM s h g2 := by rw [← hg2]; exact m1.tr (icM.W _ _ _ (by omega))
      have f2 := fillBlock_ok (x.mv m2) hw (xb.ic m2 hb) hn hun (by rw [← hg2]; rw [hzz]; exact a4) (Or.inr rfl)
      rw [hzz] at f2
      generalize hg3 : wRJ g2 (s + 3) (grF 20 z (blF n u w) (zJ g2 (s + 3)) z 0) = g3 at f2
      have m3 : icM s h g3 := by rw [← hg3]; exact m2.tr (icM.W _ _ _ (by omega))
      have hA : ∀ i j, i < z → j < z → zJ g3 (s + 2) (20 * i + j) = blF n u v i j := fun i j hi hj => by
        rw [← hg3, wRJ_n _ _ _ _ _ (by omega), ← hg2, wRJ_e, gr_at _ _ hi hj hz]
      have hB : ∀ i j, i < z → j < z → zJ g3 (s + 3) (20 * i + j) = blF n u w i j := fun i j hi hj => by
        rw [← hg3, wRJ_e, gr_at _ _ hi hj hz]
      obtain ⟨r1, l1⟩ : zR g3 s 1 = some (s + 2) ∧ zL g3 (s + 2) = 400 := (x.mv m3).2 1 (by omega)
      obtain ⟨r2, l2⟩ : zR g3 s 2 = some (s + 3) ∧ zL g3 (s + 3) = 400 := (x.mv m3).2 2 (by omega)
      have r1' : zR g1 s 1 = some (s + 2) := ((x.mv m1).2 1 (by omega)).1
      have r2' : zR g2 s 2 = some (s + 3) := ((x.mv m2).2 2 (by omega)).1
      obtain ⟨h', k1, k2⟩ := ih (u + 1) g3 fu (by omega) (by omega) m3
      refine ⟨h', ?_, k2⟩
      rw [← k1]
      show gX1_countUnlike_L6 s (some a) (some b) (nI n) _ _ (nI u) g = _
      generalize zlp (fun (_ : Int32) (_ : Int32) (_ : Zh) => (none : Option (Int32 × Zh))) (gX1_countUnlike_L6 s (some a) (some b) (nI n)) fu = Z
      unfold gX1_countUnlike_L6
      have e : 2 * nI u = nI (2 * u) := by rw [nI_o 2, pk_mul]
      rw [e, if_neg (show ¬ nI n < nI (2 * u) from by rw [Int32.not_lt]; exact nI_le (by omega) (by omega)), a1, zbI_s, zlt_, r1', f1, zbV_s, zlt_, r2', f2, zbV_s, zjn_]
      have hl4 : ∀ i, i < z → ∀ (c : Nat) (K : Int32 → Option (Int32 × Zh)), zlp (fun (_ : Int32) (_ : Int32) => (none : Option (Int32 × Zh))) (gX1_countUnlike_L4 s (nI z) g3 (nI i) K) zFU (nI c) 0 = K (nI (c + sN (unl n v w ((msL n u).getD i 0)) (msL n u))) := by
        intro i hi c K
        have hh := zlp_it (R := Option (Int32 × Zh)) (z := fun (_ : Int32) (_ : Int32) => (none : Option (Int32 × Zh))) (F := gX1_countUnlike_L4 s (nI z) g3 (nI i) K) (fun j (F : Int32 → Int32 → Option (Int32 × Zh)) => F (nI (c + sN (fun j => unl n v w ((msL n u).getD i 0) ((msL n u).getD j 0)) (List.range j))) (nI j)) (K (nI (c + sN (fun j => unl n v w ((msL n u).getD i 0) ((msL n u).getD j 0)) (List.range z)))) z ?_ ?_ zFU (by unfold zFU; omega)
        · have e := sN_get (unl n v w ((msL n u).getD i 0)) (msL n u)
          rw [hzz] at e
          rw [e] at hh
          exact hh
        · intro j hj r
          have q1 := product_ok hz l1 l2 hA hB hi hj
          have q2 := product_ok hz l2 l1 hB hA hi hj
          have w1 := prM_get (v := v) (w := w) (up := u) (j := j) hn (by rw [hzz]; exact hi)
          have w2 := prM_get (v := w) (w := v) (up := u) (j := j) hn (by rw [hzz]; exact hi)
          rw [hzz] at w1 w2
          show gX1_countUnlike_L4 s (nI z) g3 (nI i) K r (nI (c + sN (fun j => unl n v w ((msL n u).getD i 0) ((msL n u).getD j 0)) (List.range j))) (nI j) = r (nI (c + sN (fun j => unl n v w ((msL n u).getD i 0) ((msL n u).getD j 0)) (List.range (j + 1)))) (nI (j + 1))
          rw [sN_range]
          generalize sN (fun j => unl n v w ((msL n u).getD i 0) ((msL n u).getD j 0)) (List.range j) = acc
          unfold gX1_countUnlike_L4
          rw [if_neg (zge_n hj (by omega)), zlt_, r1, zlt_, r2, q1, zbj_s, zlt_, zlt_, q2, zbj_s, zjn_, w1, w2]
          unfold gX1_countUnlike_J3 unl
          by_cases he : prM n v w ((msL n u).getD i 0) ((msL n u).getD j 0) = prM n w v ((msL n u).getD i 0) ((msL n u).getD j 0)
          · rw [if_pos ((cmpE _ _).mpr he), if_pos he, ← nI_sc]; rfl
          · rw [if_neg (fun hh => he ((cmpE _ _).mp hh)), if_neg he, ← nI_sc, ← nI_sc]; rfl
        · intro r
          show gX1_countUnlike_L4 s (nI z) g3 (nI i) K r _ (nI z) = _
          unfold gX1_countUnlike_L4
          rw [if_pos (Int32.le_refl _)]
      have hh := zlp_it (R := Option (Int32 × Zh)) (z := fun (_ : Int32) (_ : Int32) => (none : Option (Int32 × Zh))) (F := gX1_countUnlike_L5 s (nI z) g3 (gX1_countUnlike_J1 (nI n) (nI (hlf n (unB n v w) u)) (nI u) Z g3)) (fun i (F : Int32 → Int32 → Option (Int32 × Zh)) => F (nI (sN (fun i => sN (unl n v w ((msL n u).getD i 0)) (msL n u)) (List.range i))) (nI i)) (Z (nI (hlf n (unB n v w) (u + 1))) (nI (u + 1)) g3) z ?_ ?_ zFU (by unfold zFU; omega)
      · exact hh
      · intro i hi r
        show gX1_countUnlike_L5 s (nI z) g3 _ r (nI (sN (fun i => sN (unl n v w ((msL n u).getD i 0)) (msL n u)) (List.range i))) (nI i) = r (nI (sN (fun i => sN (unl n v w ((msL n u).getD i 0)) (msL n u)) (List.range (i + 1)))) (nI (i + 1))
        rw [sN_range]
        unfold gX1_countUnlike_L5
        rw [if_neg (zge_n hi (by omega)), zjn_, hl4 i hi]
        unfold gX1_countUnlike_J2
        rw [← nI_sc]
      · intro r
        have e := sN_get (fun t => sN (unl n v w t) (msL n u)) (msL n u)
        rw [hzz] at e
        show gX1_countUnlike_L5 s (nI z) g3 _ r (nI (sN (fun i => sN (unl n v w ((msL n u).getD i 0)) (msL n u)) (List.range z))) (nI z) = _
        rw [e]
        unfold gX1_countUnlike_L5
        rw [if_pos (Int32.le_refl _)]
        unfold gX1_countUnlike_J1
        rw [timesCounted_ok (by omega) (by omega), zbi_s, zlt_, ← nI_sc, pk_mul, nI_add]
        rfl
  exact hgo (n / 2 + 1) 0 h zFU (by omega) (by unfold zFU; omega) (icM.rf s h)
section Ops
variable {SC : Ch → (Nat → Nat → Int32) → (Nat → Nat → Int64) → Prop} {h h' : Zh} {o o' : Nat → Nat} {L : Led} {n : Nat} {w : Nat → Wt} {S : Nat → Option Sh} {fa tr : Int32} {I : Nat → Nat → Int32} {J : Nat → Nat → Int64}
theorem frX.off {s a : Nat} (ha : frX h o a) (x : icS h o s) : a < s ∨ s + 9 < a := by
  apply Classical.byContradiction
  intro hh
  have h1 := (x.1 (a - s) (by omega)).2
  rw [show s + (a - s) = a by omega, ha.2] at h1
  exact absurd h1 (by decide)
theorem unlike_st (p : stX SC h o L n w S fa tr) (q : stM I L n w S fa tr) (hst : stOk L n w S) (x1 x2 x3 : Int32) : stG SC (gX11_unlike h 0 x1 x2 x3) (gX12_unlike (mH I J) 0 x1 x2 x3) h := by
  have hn := hst.2.1.1
  have hopt : ∀ x : Int32, ∃ r, gX11_weightsAt h 0 x = some r := fun x => by
    by_cases hx : inR x n
    · obtain ⟨k, hk, rfl⟩ := inR_f hx
      obtain ⟨a, a1, -⟩ := weightsAt_s p hn hk
      exact ⟨_, a1⟩
    · exact ⟨_, weightsAt_n p hn x hx⟩
  unfold gX11_unlike gX12_unlike
  obtain ⟨r1, e1⟩ := hopt x1
  obtain ⟨r2, e2⟩ := hopt x2
  rw [e1, zbr_s, e2, zbr_s, noWeightsM q.2.1 hn, zbi_s]
  by_cases h1 : inR x1 n
  · rw [if_pos h1, if_pos rfl, noWeightsM q.2.1 hn, zbi_s]
    obtain ⟨k, hk, rfl⟩ := inR_f h1
    obtain ⟨a, a1, a2, a3⟩ := weightsAt_s p hn hk
    obtain rfl : r1 = some a := Option.some.inj (e1.symm.trans a1)
    rw [zcs_s]
    by_cases h2 : inR x2 n
    · rw [if_pos h2, if_pos rfl, in_ii, show (2 : Int64).toInt = 2 from rfl, show (6 : Int64).toInt = 6 from rfl, zbi_s, noRowX]
      obtain ⟨l, hl, rfl⟩ := inR_f h2
      obtain ⟨b, b1, b2, b3⟩ := weightsAt_s p hn hl
      obtain rfl : r2 = some b := Option.some.inj (e2.symm.trans b1)
      rw [zcs_s, zbi_s]
      by_cases h3 : in26 x3
      · rw [if_pos h3, if_pos h3, if_pos rfl, if_neg (show ¬ (1 : Int32) = 0 by decide)]
        obtain ⟨m, hm, rfl⟩ := inR_f (x := x3) (n := 7) (by omega)
        have hm2 : 2 ≤ m := by have := h3.1; rw [nI_int (by omega)] at this; omega
        obtain ⟨h1', o1, s, g1, p1, e7, hx1, mw, bN, bS⟩ := iceRows_ok p
        have a2' := a2.mv mw
        have b2' := b2.mv mw
        obtain ⟨h2', g2, m2⟩ := unlX hx1 (hst.2.1.2 k hk) (hst.2.1.2 l hl) (a2'.off hx1) (b2'.off hx1) (a3.mv mw (by omega) a2) (b3.mv mw (by omega) b2) hm2 (show m ≤ 6 by omega)
        have h64 : 2 ^ m ≤ 2 ^ 6 := Nat.pow_le_pow_right (by decide) (by omega)
        have t1 := layRows_ok J q.2.1 hn hk (show m ≤ 6 by omega) true
        have t2 := layRows_ok (zW J 18 (grF 64 (2 ^ m) (rowN (w k) m) (J 18) (2 ^ m) 0)) q.2.1 hn hl (show m ≤ 6 by omega) false
        have t3 := unlikeM (I := I) (J := zW (zW J 18 (grF 64 (2 ^ m) (rowN (w k) m) (J 18) (2 ^ m) 0)) 19 (grF 64 (2 ^ m) (rowN (w l) m) ((zW J 18 (grF 64 (2 ^ m) (rowN (w k) m) (J 18) (2 ^ m) 0)) 19) (2 ^ m) 0)) (v := w k) (w := w l) (show m ≤ 6 by omega) (fun s t hs ht => by rw [zW_n _ _ _ _ (by decide), zW_e, gr_at _ _ hs ht (by omega)]) (fun s t hs ht => by rw [zW_e, gr_at _ _ hs ht (by omega)])
        have p2 := stX_ice (m2.mv (fun a ha => (hx1.1 a ha).2)) e7 (hx1.mv m2) p1
        obtain ⟨sh, -, -⟩ := shl_fin m (by omega)
        have t1' : gX12_layRows (mH I J) 0 (nI k) (nI m) 1 = _ := t1
        have t2' : gX12_layRows (mH I (zW J 18 (grF 64 (2 ^ m) (rowN (w k) m) (J 18) (2 ^ m) 0))) 0 (nI l) (nI m) 0 = _ := t2
        rw [g1, zbR_s, zob_s, g2, zbI_s, t1', zbV_s]
        show stG SC _ (zbV (gX12_layRows (mH I (zW J 18 (grF 64 (2 ^ m) (rowN (w k) m) (J 18) (2 ^ m) 0))) 0 (nI l) (nI m) 0) _) h
        rw [t2', zbV_s, zlt_, sh]
        rw [unl_all hm2 (by omega)] at t3
        exact ⟨_, h2', I, _, o1, L, n, w, S, fa, tr, rfl, t3, p2, q, hst, by have := m2.1.1; omega, by have := m2.1.2; omega⟩
      · rw [if_neg h3, if_neg h3, if_neg (by decide), if_pos rfl]
        exact stG_0 p q hst _
    · rw [if_neg h2, if_neg (by decide)]
      have := (weightsAt_n p hn x2 h2).symm.trans e2
      rw [← Option.some.inj this, zcs_n]
      exact stG_0 p q hst _
  · rw [if_neg h1, if_neg (by decide)]
    have := (weightsAt_n p hn x1 h1).symm.trans e1
    rw [← Option.some.inj this, zcs_n]
    exact stG_0 p q hst _
end Ops
