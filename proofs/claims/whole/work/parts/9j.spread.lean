/-! the class: H spread from a state, and done n times at the state itself -/
theorem pb_fin : ∀ N, N < 9 → 2 ≤ N → ∀ p, p < N → (if nI N - 1 ≤ nI p then ((1 : Int32) ||| ((1 : Int32) <<< ((nI N - 1) &&& 31))) else ((3 : Int32) <<< (nI p &&& 31))) = nI (pbN N p) := by decide +kernel
theorem pairBits_ok {h : Zh} {c N p : Nat} (hc : zI h c 0 = nI N) (h2 : 2 ≤ N) (hN : N ≤ 8) (hp : p < N) : gX0_pairBits h c (nI p) = some (nI (pbN N p)) := by
  have := pb_fin N (by omega) h2 p hp
  unfold gX0_pairBits
  rw [hc, ← this]
  by_cases h1 : nI N - 1 ≤ nI p
  · rw [if_pos h1, if_pos h1]
  · rw [if_neg h1, if_neg h1]
theorem pb_lt : ∀ N, N < 9 → 2 ≤ N → ∀ p, p < N → pbN N p < 256 ∧ 0 < pbN N p := by decide +kernel
def spR (N : Nat) (e : Int32) (x : Int64) (f : Nat) (W : Nat → Int64) : Nat → Nat → Int64
  | 0 => W
  | p + 1 => if f / 2 ^ p % 2 = f / 2 ^ ((p + 1) % N) % 2 then spR N e x f W p else updJ (spR N e x f W p) (fpN N p f) (spR N e x f W p (fpN N p f) + x * e.toInt64)
def spW (N r : Nat) (e d : Int32) (x : Int64) (f : Nat) (W : Nat → Int64) : Nat → Int64 := spR N e x f (updJ W f (W f + x * hV N r e d f f)) (chP N r)
theorem aSum_s {N : Nat} {e d : Int32} (he1 : 1 ≤ e.toInt) (he2 : e.toInt ≤ 4) (hd1 : -2 ≤ d.toInt) (hd2 : d.toInt ≤ 2) (f t P : Nat) (hP : P < 8) : (aSum N e d f t (P + 1)).toInt64 = (aSum N e d f t P).toInt64 + (aStep N e d f t P).toInt64 := by
  have h1 := (aSum_c (N := N) he1 he2 hd1 hd2 f t P (by omega)).2
  have h3 : (aStep N e d f t P).toInt.natAbs ≤ 4 := by
    unfold aStep
    have hn : (-d).toInt.natAbs ≤ 4 := by rw [(i64_neg (a := d) (by omega)).2]; omega
    have z : (0 : Int32).toInt.natAbs ≤ 4 := by decide
    split
    · split
      · omega
      · exact z
    · split
      · exact hn
      · split
        · omega
        · exact z
  exact (i64_add (Nat.le_trans h1 (by omega)) (Nat.le_trans h3 (by omega))).1
theorem spR_v {N : Nat} {e d : Int32} (h2 : 2 ≤ N) (hN : N ≤ 8) (he1 : 1 ≤ e.toInt) (he2 : e.toInt ≤ 4) (hd1 : -2 ≤ d.toInt) (hd2 : d.toInt ≤ 2) {x : Int64} {f : Nat} (hf : f < 2 ^ N) (W : Nat → Int64) : ∀ p, p ≤ N → ∀ t, spR N e x f W p t = W t + (if t = f then 0 else x * (aSum N e d f t p).toInt64)
  | 0, _, t => by
    show W t = W t + (if t = f then 0 else x * (0 : Int32).toInt64)
    have z : (0 : Int32).toInt64 = 0 := rfl
    rw [z]
    by_cases h : t = f
    · rw [if_pos h]; grind
    · rw [if_neg h]; grind
  | p + 1, hp, t => by
    have ih := fun t => spR_v h2 hN he1 he2 hd1 hd2 hf W (x := x) (f := f) p (by omega) t
    have hs := aSum_s (N := N) he1 he2 hd1 hd2 f t p (by omega)
    have z : (0 : Int32).toInt64 = 0 := rfl
    show (if f / 2 ^ p % 2 = f / 2 ^ ((p + 1) % N) % 2 then spR N e x f W p else updJ (spR N e x f W p) (fpN N p f) (spR N e x f W p (fpN N p f) + x * e.toInt64)) t = _
    by_cases h1 : f / 2 ^ p % 2 = f / 2 ^ ((p + 1) % N) % 2
    · rw [if_pos h1, ih t]
      by_cases h3 : t = f
      · rw [if_pos h3, if_pos h3]
      · have e1 : aStep N e d f t p = 0 := by
          unfold aStep
          rw [if_pos h1, if_neg (fun hh => h3 hh.symm)]
        rw [if_neg h3, if_neg h3, hs, e1, z]; grind
    · have hx := (fp_ok h2 hN (show p < N by omega) hf).2 h1
      rw [← fpN_eq] at hx
      rw [if_neg h1]
      unfold updJ
      by_cases h4 : t = fpN N p f
      · have h3 : ¬ t = f := fun hh => hx.2.2.2.1 (h4.symm.trans hh)
        have e1 : aStep N e d f t p = e := by
          unfold aStep
          rw [if_neg h1, if_neg (fun hh => h3 hh.symm)]
          exact if_pos h4.symm
        rw [if_pos h4, ← h4, ih t, if_neg h3, if_neg h3, hs, e1]; grind
      · rw [if_neg h4, ih t]
        by_cases h3 : t = f
        · rw [if_pos h3, if_pos h3]
        · have e1 : aStep N e d f t p = 0 := by
            unfold aStep
            rw [if_neg h1, if_neg (fun hh => h3 hh.symm)]
            exact if_neg (fun hh => h4 hh.symm)
          rw [if_neg h3, if_neg h3, hs, e1, z]; grind
theorem spW_v {N r : Nat} {e d : Int32} (h2 : 2 ≤ N) (hN : N ≤ 8) (he1 : 1 ≤ e.toInt) (he2 : e.toInt ≤ 4) (hd1 : -2 ≤ d.toInt) (hd2 : d.toInt ≤ 2) {x : Int64} {f : Nat} (hf : f < 2 ^ N) (W : Nat → Int64) (t : Nat) : spW N r e d x f W t = W t + x * hV N r e d f t := by
  unfold spW
  rw [spR_v h2 hN he1 he2 hd1 hd2 hf _ _ (chP_le N r) t]
  unfold updJ
  by_cases h : t = f
  · rw [if_pos h, if_pos h, h]; grind
  · rw [if_neg h, if_neg h]; rfl
theorem spread_ok {h : Zh} {s c a N r : Nat} {e d : Int32} (rc : zR h s 10 = some c) (hc : chAt h c N r e d) (h2 : 2 ≤ N) (hN : N ≤ 8) (hr : r ≤ 1) (hd1 : -2 ≤ d.toInt) (hd2 : d.toInt ≤ 2) (hl : zL h a = 256) {f : Nat} (hf : f < 2 ^ N) (x : Int64) : gX5_spread h s (nI f) x (some a) = some (wRJ h a (spW N r e d x f (zJ h a))) := by
  have h256 : 2 ^ N ≤ 2 ^ 8 := Nat.pow_le_pow_right (by decide) hN
  have hPN := chP_le N r
  have i1 : zin (nI f) 256 = true := zin_nI (by omega) (by omega)
  have y1 : zx (nI f) = f := zx_nI (by omega)
  have hst : gX0_stay h c (nI f) = some (aSum N e d f f (chP N r)) := stay_ok hc h2 hN hr hd1 hd2 f hf
  unfold gX5_spread
  rw [zob_s, hl, i1, zg_1, zlt_, rc, zob_s, hst, zbi_s, zg_1, zlt_, y1]
  have e0 : zsJ h a f (zJ h a f + x * (aSum N e d f f (chP N r)).toInt64) = wRJ h a (updJ (zJ h a) f (zJ h a f + x * hV N r e d f f)) := by
    have := wRJ_s h a (zJ h a) f (zJ h a f + x * hV N r e d f f)
    rw [wRJ_self] at this
    exact this
  rw [e0]
  generalize hW : updJ (zJ h a) f (zJ h a f + x * hV N r e d f f) = W0
  refine zlp_it (R := Option Zh) (z := fun (_ : Int32) (_ : Zh) => (none : Option (Zh))) (F := gX5_spread_L2 s (nI f) x a) (fun p (F : Int32 → Zh → Option Zh) => F (nI p) (wRJ h a (spR N e x f W0 p))) _ (chP N r) ?_ ?_ zFU (by unfold zFU; omega)
  · intro p hp rr
    show gX5_spread_L2 s (nI f) x a rr (nI p) (wRJ h a (spR N e x f W0 p)) = rr (nI (p + 1)) (wRJ h a (if f / 2 ^ p % 2 = f / 2 ^ ((p + 1) % N) % 2 then spR N e x f W0 p else updJ (spR N e x f W0 p) (fpN N p f) (spR N e x f W0 p (fpN N p f) + x * e.toInt64)))
    generalize spR N e x f W0 p = W
    have q10 : zR (wRJ h a W) s 10 = some c := rc
    have q5 : zI (wRJ h a W) c 5 = nI (chP N r) := hc.2.2.2.2.2
    have q2 : zI (wRJ h a W) c 2 = e := hc.2.2.1
    have qb : gX0_pairBits (wRJ h a W) c (nI p) = some (nI (pbN N p)) := pairBits_ok (h := wRJ h a W) hc.1 h2 hN (by omega)
    obtain ⟨b1, b2⟩ := pb_lt N (by omega) h2 p (by omega)
    obtain ⟨f1, f2⟩ := fp_ok h2 hN (show p < N by omega) hf
    have hand : f &&& pbN N p < 256 := Nat.lt_of_le_of_lt Nat.and_le_right b1
    have hJ : ∀ k, gX5_spread_J1 (nI p) rr k = rr (nI (p + 1)) k := fun k => by unfold gX5_spread_J1; rw [← nI_sc]
    unfold gX5_spread_L2
    rw [zlt_, q10, zob_s, q5, if_neg (zge_n hp (by omega)), zlt_, zob_s, qb, zbi_s, zlt_, nI_and, zjn_]
    by_cases h1 : f / 2 ^ p % 2 = f / 2 ^ ((p + 1) % N) % 2
    · rw [if_pos h1]
      rcases f1 h1 with h3 | h3
      · rw [if_pos (show nI (f &&& pbN N p) = 0 by rw [h3]; rfl), hJ]
      · rw [h3, if_neg (show ¬ nI (pbN N p) = 0 from fun hh => by have := (nI_inj (b := 0) (by omega) (by omega)).mp hh; omega), if_pos rfl, hJ]
    · obtain ⟨g1, g2, g3, g4, g5, g6⟩ := f2 h1
      have i2 : zin (nI (f ^^^ pbN N p)) 256 = true := zin_nI (by omega) (by omega)
      rw [if_neg h1, if_neg (show ¬ nI (f &&& pbN N p) = 0 from fun hh => g1 ((nI_inj (b := 0) (by omega) (by omega)).mp hh)), if_neg (fun hh => g2 ((nI_inj (by omega) (by omega)).mp hh)), zlt_, nI_xor, wRJ_L, hl, i2, zg_1, zlt_, zob_s, zg_1, zlt_, zx_nI (show f ^^^ pbN N p < 2 ^ 31 by omega), q2, wRJ_e, wRJ_s, hJ, fpN_eq]
  · intro rr
    have q10 : zR (wRJ h a (spR N e x f W0 (chP N r))) s 10 = some c := rc
    have q5 : zI (wRJ h a (spR N e x f W0 (chP N r))) c 5 = nI (chP N r) := hc.2.2.2.2.2
    show gX5_spread_L2 s (nI f) x a rr (nI (chP N r)) (wRJ h a (spR N e x f W0 (chP N r))) = _
    unfold gX5_spread_L2
    rw [zlt_, q10, zob_s, q5, if_pos (Int32.le_refl _)]
    refine congrArg (fun g => some (wRJ h a g)) ?_
    unfold spW
    rw [hW]
/-- two rows beside the sector -/
def w2 (h : Zh) (p q : Nat) (A B : Nat → Int64) : Zh := wRJ (wRJ h p A) q B
theorem w2_p (h : Zh) {p q : Nat} (hpq : p ≠ q) (A B : Nat → Int64) (k : Nat) : zJ (w2 h p q A B) p k = A k := by
  unfold w2
  rw [wRJ_n _ _ _ _ _ hpq, wRJ_e]
theorem w2_q (h : Zh) (p q : Nat) (A B : Nat → Int64) (k : Nat) : zJ (w2 h p q A B) q k = B k := wRJ_e _ _ _ _
theorem wRJ_c (h : Zh) {p q : Nat} (hpq : p ≠ q) (A B A' : Nat → Int64) : wRJ (w2 h p q A B) p A' = w2 h p q A' B := by
  refine congrArg (fun f => ((h.1, h.2.1, h.2.2.1, h.2.2.2.1, f, h.2.2.2.2.2) : Zh)) ?_
  show zW (zW (zW h.2.2.2.2.1 p A) q B) p A' = zW (zW h.2.2.2.2.1 p A') q B
  rw [zW_c _ q p _ _ (fun hh => hpq hh.symm), zW_W]
theorem wRJ_d (h : Zh) (p q : Nat) (A B B' : Nat → Int64) : wRJ (w2 h p q A B) q B' = w2 h p q A B' := by
  refine congrArg (fun f => ((h.1, h.2.1, h.2.2.1, h.2.2.2.1, f, h.2.2.2.2.2) : Zh)) ?_
  show zW (zW (zW h.2.2.2.2.1 p A) q B) q B' = zW (zW h.2.2.2.2.1 p A) q B'
  rw [zW_W]
theorem w2_sp (h : Zh) {p q : Nat} (hpq : p ≠ q) (A B : Nat → Int64) (k : Nat) (v : Int64) : zsJ (w2 h p q A B) p k v = w2 h p q (updJ A k v) B := by
  have h1 := wRJ_s (w2 h p q A B) p A k v
  rw [wRJ_c h hpq, wRJ_c h hpq] at h1
  exact h1
theorem w2_sq (h : Zh) (p q : Nat) (A B : Nat → Int64) (k : Nat) (v : Int64) : zsJ (w2 h p q A B) q k v = w2 h p q A (updJ B k v) := by
  have h1 := wRJ_s (w2 h p q A B) q B k v
  rw [wRJ_d, wRJ_d] at h1
  exact h1
def zrA (mA : Nat → Nat) (A : Nat → Int64) : Nat → Nat → Int64
  | 0 => A
  | i + 1 => updJ (zrA mA A i) (mA i) 0
theorem zrA_v (mA : Nat → Nat) (A : Nat → Int64) : ∀ i j, j < i → zrA mA A i (mA j) = 0
  | 0, j, hj => absurd hj (Nat.not_lt_zero j)
  | i + 1, j, hj => by
    show (if mA j = mA i then 0 else zrA mA A i (mA j)) = 0
    by_cases h1 : mA j = mA i
    · rw [if_pos h1]
    · rw [if_neg h1]
      exact zrA_v mA A i j (by
        apply Classical.byContradiction
        intro hh
        exact h1 (by rw [show j = i by omega]))
def twB (N r : Nat) (e d : Int32) (mA : Nat → Nat) (A B : Nat → Int64) : Nat → Nat → Int64
  | 0 => B
  | i + 1 => if A (mA i) = 0 then twB N r e d mA A B i else spW N r e d (A (mA i)) (mA i) (twB N r e d mA A B i)
theorem twB_v {N r : Nat} {e d : Int32} (h2 : 2 ≤ N) (hN : N ≤ 8) (he1 : 1 ≤ e.toInt) (he2 : e.toInt ≤ 4) (hd1 : -2 ≤ d.toInt) (hd2 : d.toInt ≤ 2) (mA : Nat → Nat) (A B : Nat → Int64) {n : Nat} (hm : ∀ i, i < n → mA i < 2 ^ N) (t : Nat) : ∀ i, i ≤ n → twB N r e d mA A B i t = B t + sF (fun j => A (mA j) * hV N r e d (mA j) t) (List.range i)
  | 0, _ => by show B t = B t + 0; grind
  | i + 1, hi => by
    show (if A (mA i) = 0 then twB N r e d mA A B i else spW N r e d (A (mA i)) (mA i) (twB N r e d mA A B i)) t = _
    have ih := twB_v (r := r) h2 hN he1 he2 hd1 hd2 mA A B hm t i (by omega)
    rw [sF_range]
    by_cases h1 : A (mA i) = 0
    · rw [if_pos h1, ih, h1]; grind
    · rw [if_neg h1, spW_v h2 hN he1 he2 hd1 hd2 (hm i (by omega)), ih]; grind
section At
variable {h : Zh} {s c p q cnt N r : Nat} {e d : Int32} {mA : Nat → Nat}
theorem atItself_ok (hpq : p ≠ q) (r8 : zR h s 8 = some p) (r9 : zR h s 9 = some q) (lp : zL h p = 256) (lq : zL h q = 256) (r1 : zR h s 1 = some (s + 2)) (l1 : zL h (s + 2) = 70) (hcnt : cnt ≤ 70) (hm : ∀ i, i < cnt → zI h (s + 2) i = nI (mA i) ∧ mA i < 2 ^ N) (rc : zR h s 10 = some c) (hc : chAt h c N r e d) (h2 : 2 ≤ N) (hN : N ≤ 8) (hr : r ≤ 1) (hd1 : -2 ≤ d.toInt) (hd2 : d.toInt ≤ 2) {f : Nat} (hf : f < 2 ^ N) {n : Nat} (hn2 : 2 ≤ n) (hn4 : n ≤ 4) (A B : Nat → Int64) : ∃ A' B', gX5_atItself (w2 h p q A B) s (nI f) (nI cnt) (nI n) = some (sF (fun i => (if n = 4 then B' (mA i) else A' (mA i)) * (if n = 2 then A' (mA i) else B' (mA i))) (List.range cnt), w2 h p q A' B') ∧ A' = spW N r e d 1 f (zrA mA A cnt) ∧ B' = if n = 2 then zrA mA B cnt else twB N r e d mA A' (zrA mA B cnt) cnt := by
  have h256 : 2 ^ N ≤ 2 ^ 8 := Nat.pow_le_pow_right (by decide) hN
  have w8 : ∀ A B, zR (w2 h p q A B) s 8 = some p := fun _ _ => r8
  have w9 : ∀ A B, zR (w2 h p q A B) s 9 = some q := fun _ _ => r9
  have w1 : ∀ A B, zR (w2 h p q A B) s 1 = some (s + 2) := fun _ _ => r1
  have w10 : ∀ A B, zR (w2 h p q A B) s 10 = some c := fun _ _ => rc
  have wc : ∀ A B, chAt (w2 h p q A B) c N r e d := fun _ _ => hc
  have vp : ∀ A B, zL (w2 h p q A B) p = 256 := fun _ _ => lp
  have vq : ∀ A B, zL (w2 h p q A B) q = 256 := fun _ _ => lq
  have v1 : ∀ A B, zL (w2 h p q A B) (s + 2) = 70 := fun _ _ => l1
  have vm : ∀ A B i, i < cnt → zI (w2 h p q A B) (s + 2) i = nI (mA i) := fun _ _ i hi => (hm i hi).1
  have jm : ∀ i, i < cnt → zin (nI (mA i)) 256 = true := fun i hi => zin_nI (by have := (hm i hi).2; omega) (by have := (hm i hi).2; omega)
  have ji : ∀ i, i < cnt → zin (nI i) 70 = true := fun i hi => zin_nI (by omega) (by omega)
  have ym : ∀ i, i < cnt → zx (nI (mA i)) = mA i := fun i hi => zx_nI (by have := (hm i hi).2; omega)
  have yi : ∀ i, i < cnt → zx (nI i) = i := fun i hi => zx_nI (by omega)
  have jp := w2_p h hpq
  have jq := w2_q h p q
  have sp := w2_sp h hpq
  have sq := w2_sq h p q
  have hz : ∀ K : Zh → Option (Int64 × Zh), zlp (fun (_ : Int32) (_ : Zh) => (none : Option (Int64 × Zh))) (gX5_atItself_L8 s (nI cnt) K) zFU 0 (w2 h p q A B) = K (w2 h p q (zrA mA A cnt) (zrA mA B cnt)) := by
    intro K
    refine zlp_it (R := Option (Int64 × Zh)) (z := fun (_ : Int32) (_ : Zh) => (none : Option (Int64 × Zh))) (F := gX5_atItself_L8 s (nI cnt) K) (fun i (F : Int32 → Zh → Option (Int64 × Zh)) => F (nI i) (w2 h p q (zrA mA A i) (zrA mA B i))) _ cnt ?_ ?_ zFU (by unfold zFU; omega)
    · intro i hi rr
      show gX5_atItself_L8 s (nI cnt) K rr (nI i) (w2 h p q (zrA mA A i) (zrA mA B i)) = rr (nI (i + 1)) (w2 h p q (updJ (zrA mA A i) (mA i) 0) (updJ (zrA mA B i) (mA i) 0))
      have vmi := fun A B => vm A B i hi
      have jmi := jm i hi
      have jii := ji i hi
      have ymi := ym i hi
      have yii := yi i hi
      unfold gX5_atItself_L8
      rw [if_neg (zge_n hi (by omega))]
      repeat (first | rw [w8] | rw [w9] | rw [w1] | rw [v1] | rw [jii] | rw [yii] | rw [vmi] | rw [vp] | rw [vq] | rw [jmi] | rw [ymi] | rw [sp] | rw [sq] | rw [zlt_] | rw [zjn_] | rw [zob_s] | rw [zg_1] | rw [zbi_s] | rw [zbI_s] | rw [zbr_s] | rw [zbR_s] | rw [zbV_s] | rw [zbj_s] | rw [zbJ_s] | rw [zcs_s] | rw [zcs_n])
      rw [← nI_sc]
    · intro rr
      show gX5_atItself_L8 s (nI cnt) K rr (nI cnt) _ = _
      unfold gX5_atItself_L8
      rw [if_pos (Int32.le_refl _)]
  unfold gX5_atItself
  rw [zjn_, hz]
  generalize zrA mA B cnt = B0
  unfold gX5_atItself_J7
  have hsp : gX5_spread (w2 h p q (zrA mA A cnt) B0) s (nI f) 1 (some p) = some (w2 h p q (spW N r e d 1 f (zrA mA A cnt)) B0) := by
    have h1 := spread_ok (h := w2 h p q (zrA mA A cnt) B0) (a := p) (w10 _ _) (wc _ _) h2 hN hr hd1 hd2 (vp _ _) hf 1
    rw [wRJ_c h hpq, show zJ (w2 h p q (zrA mA A cnt) B0) p = zrA mA A cnt from funext fun k => jp _ _ k] at h1
    exact h1
  rw [zlt_, w8, hsp, zbV_s, zjn_]
  generalize spW N r e d 1 f (zrA mA A cnt) = A1
  have htw : ∀ K : Zh → Option (Int64 × Zh), zlp (fun (_ : Int32) (_ : Zh) => (none : Option (Int64 × Zh))) (gX5_atItself_L6 s (nI cnt) (nI n) K) zFU 0 (w2 h p q A1 B0) = K (w2 h p q A1 (if n = 2 then B0 else twB N r e d mA A1 B0 cnt)) := by
    intro K
    by_cases hn : n = 2
    · rw [if_pos hn]
      refine zlp_it (R := Option (Int64 × Zh)) (z := fun (_ : Int32) (_ : Zh) => (none : Option (Int64 × Zh))) (F := gX5_atItself_L6 s (nI cnt) (nI n) K) (fun i (F : Int32 → Zh → Option (Int64 × Zh)) => F (nI i) (w2 h p q A1 B0)) _ 0 (fun i hi => by omega) (fun rr => ?_) zFU (by unfold zFU; omega)
      show gX5_atItself_L6 s (nI cnt) (nI n) K rr (nI 0) (w2 h p q A1 B0) = _
      unfold gX5_atItself_L6
      by_cases h0 : nI cnt ≤ nI 0
      · rw [if_pos h0]
      · rw [if_neg h0, if_pos (show nI n ≤ 2 from nI_le (b := 2) (by omega) (by decide))]
    · rw [if_neg hn]
      refine zlp_it (R := Option (Int64 × Zh)) (z := fun (_ : Int32) (_ : Zh) => (none : Option (Int64 × Zh))) (F := gX5_atItself_L6 s (nI cnt) (nI n) K) (fun i (F : Int32 → Zh → Option (Int64 × Zh)) => F (nI i) (w2 h p q A1 (twB N r e d mA A1 B0 i))) _ cnt ?_ ?_ zFU (by unfold zFU; omega)
      · intro i hi rr
        show gX5_atItself_L6 s (nI cnt) (nI n) K rr (nI i) (w2 h p q A1 (twB N r e d mA A1 B0 i)) = rr (nI (i + 1)) (w2 h p q A1 (if A1 (mA i) = 0 then twB N r e d mA A1 B0 i else spW N r e d (A1 (mA i)) (mA i) (twB N r e d mA A1 B0 i)))
        generalize twB N r e d mA A1 B0 i = B1
        have vmi := fun A B => vm A B i hi
        have jmi := jm i hi
        have jii := ji i hi
        have ymi := ym i hi
        have yii := yi i hi
        have jpi := fun A B => jp A B (mA i)
        have hJ5 : ∀ k, gX5_atItself_J5 (nI i) rr k = rr (nI (i + 1)) k := fun k => by unfold gX5_atItself_J5; rw [← nI_sc]
        have hsq : gX5_spread (w2 h p q A1 B1) s (nI (mA i)) (A1 (mA i)) (some q) = some (w2 h p q A1 (spW N r e d (A1 (mA i)) (mA i) B1)) := by
          have h1 := spread_ok (h := w2 h p q A1 B1) (a := q) (w10 _ _) (wc _ _) h2 hN hr hd1 hd2 (vq _ _) (hm i hi).2 (A1 (mA i))
          rw [wRJ_d, show zJ (w2 h p q A1 B1) q = B1 from funext fun k => jq _ _ k] at h1
          exact h1
        unfold gX5_atItself_L6
        rw [if_neg (zge_n hi (by omega)), if_neg (show ¬ nI n ≤ 2 from zge_n (a := 2) (show 2 < n by omega) (by omega))]
        repeat (first | rw [w8] | rw [w1] | rw [v1] | rw [jii] | rw [yii] | rw [vmi] | rw [vp] | rw [jmi] | rw [ymi] | rw [jpi] | rw [zlt_] | rw [zjn_] | rw [zob_s] | rw [zg_1] | rw [zbi_s] | rw [zbI_s] | rw [zbr_s] | rw [zbR_s] | rw [zbV_s] | rw [zbj_s] | rw [zbJ_s] | rw [zcs_s] | rw [zcs_n])
        by_cases h1 : A1 (mA i) = 0
        · rw [if_pos ((cmp0 _).mpr h1), if_pos h1, hJ5]
        · rw [if_neg (fun hh => h1 ((cmp0 _).mp hh)), if_neg h1]
          repeat (first | rw [w8] | rw [w9] | rw [w1] | rw [v1] | rw [jii] | rw [yii] | rw [vmi] | rw [vp] | rw [jmi] | rw [ymi] | rw [jpi] | rw [hsq] | rw [zlt_] | rw [zjn_] | rw [zob_s] | rw [zg_1] | rw [zbi_s] | rw [zbI_s] | rw [zbr_s] | rw [zbR_s] | rw [zbV_s] | rw [zbj_s] | rw [zbJ_s] | rw [zcs_s] | rw [zcs_n])
          rw [hJ5]
      · intro rr
        show gX5_atItself_L6 s (nI cnt) (nI n) K rr (nI cnt) _ = _
        unfold gX5_atItself_L6
        rw [if_pos (Int32.le_refl _)]
  rw [htw]
  generalize hB2 : (if n = 2 then B0 else twB N r e d mA A1 B0 cnt) = B2
  refine ⟨A1, B2, ?_, rfl, hB2.symm⟩
  unfold gX5_atItself_J4
  refine zlp_it (R := Option (Int64 × Zh)) (z := fun (_ : Int64) (_ : Int32) => (none : Option (Int64 × Zh))) (F := gX5_atItself_L3 s (nI cnt) (nI n) (w2 h p q A1 B2)) (fun i (F : Int64 → Int32 → Option (Int64 × Zh)) => F (sF (fun i => (if n = 4 then B2 (mA i) else A1 (mA i)) * (if n = 2 then A1 (mA i) else B2 (mA i))) (List.range i)) (nI i)) _ cnt ?_ ?_ zFU (by unfold zFU; omega)
  · intro i hi rr
    show gX5_atItself_L3 s (nI cnt) (nI n) (w2 h p q A1 B2) rr (sF (fun i => (if n = 4 then B2 (mA i) else A1 (mA i)) * (if n = 2 then A1 (mA i) else B2 (mA i))) (List.range i)) (nI i) = rr (sF (fun i => (if n = 4 then B2 (mA i) else A1 (mA i)) * (if n = 2 then A1 (mA i) else B2 (mA i))) (List.range (i + 1))) (nI (i + 1))
    rw [sF_range]
    generalize sF (fun i => (if n = 4 then B2 (mA i) else A1 (mA i)) * (if n = 2 then A1 (mA i) else B2 (mA i))) (List.range i) = S0
    have vmi := fun A B => vm A B i hi
    have jmi := jm i hi
    have jii := ji i hi
    have ymi := ym i hi
    have yii := yi i hi
    have jpi := fun A B => jp A B (mA i)
    have jqi := fun A B => jq A B (mA i)
    have hJ1 : ∀ u v, gX5_atItself_J1 S0 (nI i) rr u v = rr (S0 + u * v) (nI (i + 1)) := fun u v => by
      unfold gX5_atItself_J1
      rw [zlt_, ← nI_sc]
    have hJ2 : ∀ u, gX5_atItself_J2 s (nI n) (w2 h p q A1 B2) S0 (nI i) rr u = rr (S0 + u * (if n = 2 then A1 (mA i) else B2 (mA i))) (nI (i + 1)) := fun u => by
      unfold gX5_atItself_J2
      rw [zjn_]
      by_cases hn : n = 2
      · rw [if_pos (show nI n = 2 by rw [hn]; rfl), if_pos hn]
        repeat (first | rw [w8] | rw [w1] | rw [v1] | rw [jii] | rw [yii] | rw [vmi] | rw [vp] | rw [jmi] | rw [ymi] | rw [jpi] | rw [hJ1] | rw [zlt_] | rw [zjn_] | rw [zob_s] | rw [zg_1] | rw [zbi_s] | rw [zbI_s] | rw [zbr_s] | rw [zbR_s] | rw [zbV_s] | rw [zbj_s] | rw [zbJ_s] | rw [zcs_s] | rw [zcs_n])
      · rw [if_neg (show ¬ nI n = 2 from fun hh => hn ((nI_inj (b := 2) (by omega) (by omega)).mp hh)), if_neg hn]
        repeat (first | rw [w9] | rw [w1] | rw [v1] | rw [jii] | rw [yii] | rw [vmi] | rw [vq] | rw [jmi] | rw [ymi] | rw [jqi] | rw [hJ1] | rw [zlt_] | rw [zjn_] | rw [zob_s] | rw [zg_1] | rw [zbi_s] | rw [zbI_s] | rw [zbr_s] | rw [zbR_s] | rw [zbV_s] | rw [zbj_s] | rw [zbJ_s] | rw [zcs_s] | rw [zcs_n])
    unfold gX5_atItself_L3
    rw [if_neg (zge_n hi (by omega)), zjn_]
    by_cases hn : n = 4
    · rw [if_pos (show nI n = 4 by rw [hn]; rfl), if_pos hn]
      repeat (first | rw [w9] | rw [w1] | rw [v1] | rw [jii] | rw [yii] | rw [vmi] | rw [vq] | rw [jmi] | rw [ymi] | rw [jqi] | rw [hJ2] | rw [zlt_] | rw [zjn_] | rw [zob_s] | rw [zg_1] | rw [zbi_s] | rw [zbI_s] | rw [zbr_s] | rw [zbR_s] | rw [zbV_s] | rw [zbj_s] | rw [zbJ_s] | rw [zcs_s] | rw [zcs_n])
    · rw [if_neg (show ¬ nI n = 4 from fun hh => hn ((nI_inj (b := 4) (by omega) (by omega)).mp hh)), if_neg hn]
      repeat (first | rw [w8] | rw [w1] | rw [v1] | rw [jii] | rw [yii] | rw [vmi] | rw [vp] | rw [jmi] | rw [ymi] | rw [jpi] | rw [hJ2] | rw [zlt_] | rw [zjn_] | rw [zob_s] | rw [zg_1] | rw [zbi_s] | rw [zbI_s] | rw [zbr_s] | rw [zbR_s] | rw [zbV_s] | rw [zbj_s] | rw [zbJ_s] | rw [zcs_s] | rw [zcs_n])
  · intro rr
    show gX5_atItself_L3 s (nI cnt) (nI n) (w2 h p q A1 B2) rr _ (nI cnt) = _
    unfold gX5_atItself_L3
    rw [if_pos (Int32.le_refl _)]
end At
