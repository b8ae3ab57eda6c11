/-! the class's polynomial: Berkowitz' way, as a function -/
def s5J (J : Nat → Nat → Int64) (s : Nat) (C X V P Q : Nat → Int64) : Nat → Nat → Int64 := fun a => if a = s + 4 then C else if a = s + 5 then X else if a = s + 6 then V else if a = s + 7 then P else if a = s + 8 then Q else J a
def s5 (h : Zh) (s : Nat) (C X V P Q : Nat → Int64) : Zh := (h.1, h.2.1, h.2.2.1, h.2.2.2.1, s5J h.2.2.2.2.1 s C X V P Q, h.2.2.2.2.2)
section S5
variable (h : Zh) (s : Nat) (C X V P Q : Nat → Int64)
theorem s5_L (x : Nat) : zL (s5 h s C X V P Q) x = zL h x := rfl
theorem s5_I (x k : Nat) : zI (s5 h s C X V P Q) x k = zI h x k := rfl
theorem s5_R (x k : Nat) : zR (s5 h s C X V P Q) x k = zR h x k := rfl
theorem s5_4 (k : Nat) : zJ (s5 h s C X V P Q) (s + 4) k = C k := by
  show s5J _ _ _ _ _ _ _ _ _ = _
  unfold s5J; rw [if_pos rfl]
theorem s5_5 (k : Nat) : zJ (s5 h s C X V P Q) (s + 5) k = X k := by
  show s5J _ _ _ _ _ _ _ _ _ = _
  unfold s5J; rw [if_neg (by omega), if_pos rfl]
theorem s5_6 (k : Nat) : zJ (s5 h s C X V P Q) (s + 6) k = V k := by
  show s5J _ _ _ _ _ _ _ _ _ = _
  unfold s5J; rw [if_neg (by omega), if_neg (by omega), if_pos rfl]
theorem s5_7 (k : Nat) : zJ (s5 h s C X V P Q) (s + 7) k = P k := by
  show s5J _ _ _ _ _ _ _ _ _ = _
  unfold s5J; rw [if_neg (by omega), if_neg (by omega), if_neg (by omega), if_pos rfl]
theorem s5_8 (k : Nat) : zJ (s5 h s C X V P Q) (s + 8) k = Q k := by
  show s5J _ _ _ _ _ _ _ _ _ = _
  unfold s5J; rw [if_neg (by omega), if_neg (by omega), if_neg (by omega), if_neg (by omega), if_pos rfl]
theorem s5_n (x k : Nat) (hx : x < s + 4 ∨ s + 8 < x) : zJ (s5 h s C X V P Q) x k = zJ h x k := by
  show s5J _ _ _ _ _ _ _ _ _ = _
  unfold s5J; rw [if_neg (by omega), if_neg (by omega), if_neg (by omega), if_neg (by omega), if_neg (by omega)]; rfl
theorem s5_set (J : Nat → Nat → Int64) (J' : Nat → Nat → Int64) (i k : Nat) (v : Int64) (e1 : ∀ a, a ≠ i → J' a = J a) (e2 : J' i = updJ (J i) k v) : zU J i k v = J' := by
  funext a b
  show (if a = i ∧ b = k then v else J a b) = J' a b
  by_cases ha : a = i
  · rw [ha, e2]
    unfold updJ
    by_cases hb : b = k
    · rw [if_pos ⟨rfl, hb⟩, if_pos hb]
    · rw [if_neg (fun hh => hb hh.2), if_neg hb]
  · rw [if_neg (fun hh => ha hh.1), e1 a ha]
theorem s5_s4 (k : Nat) (v : Int64) : zsJ (s5 h s C X V P Q) (s + 4) k v = s5 h s (updJ C k v) X V P Q := by
  refine congrArg (fun f => ((h.1, h.2.1, h.2.2.1, h.2.2.2.1, f, h.2.2.2.2.2) : Zh)) (s5_set _ _ _ _ _ (fun a ha => ?_) ?_)
  · show s5J _ s (updJ C k v) X V P Q a = s5J _ s C X V P Q a
    unfold s5J; rw [if_neg ha, if_neg ha]
  · show s5J _ s (updJ C k v) X V P Q (s + 4) = updJ (s5J _ s C X V P Q (s + 4)) k v
    unfold s5J; simp
theorem s5_s5 (k : Nat) (v : Int64) : zsJ (s5 h s C X V P Q) (s + 5) k v = s5 h s C (updJ X k v) V P Q := by
  refine congrArg (fun f => ((h.1, h.2.1, h.2.2.1, h.2.2.2.1, f, h.2.2.2.2.2) : Zh)) (s5_set _ _ _ _ _ (fun a ha => ?_) ?_)
  · show s5J _ s C (updJ X k v) V P Q a = s5J _ s C X V P Q a
    unfold s5J; simp only [if_neg ha]
  · show s5J _ s C (updJ X k v) V P Q (s + 5) = updJ (s5J _ s C X V P Q (s + 5)) k v
    unfold s5J; simp
theorem s5_s6 (k : Nat) (v : Int64) : zsJ (s5 h s C X V P Q) (s + 6) k v = s5 h s C X (updJ V k v) P Q := by
  refine congrArg (fun f => ((h.1, h.2.1, h.2.2.1, h.2.2.2.1, f, h.2.2.2.2.2) : Zh)) (s5_set _ _ _ _ _ (fun a ha => ?_) ?_)
  · show s5J _ s C X (updJ V k v) P Q a = s5J _ s C X V P Q a
    unfold s5J; simp only [if_neg ha]
  · show s5J _ s C X (updJ V k v) P Q (s + 6) = updJ (s5J _ s C X V P Q (s + 6)) k v
    unfold s5J; simp
theorem s5_s7 (k : Nat) (v : Int64) : zsJ (s5 h s C X V P Q) (s + 7) k v = s5 h s C X V (updJ P k v) Q := by
  refine congrArg (fun f => ((h.1, h.2.1, h.2.2.1, h.2.2.2.1, f, h.2.2.2.2.2) : Zh)) (s5_set _ _ _ _ _ (fun a ha => ?_) ?_)
  · show s5J _ s C X V (updJ P k v) Q a = s5J _ s C X V P Q a
    unfold s5J; simp only [if_neg ha]
  · show s5J _ s C X V (updJ P k v) Q (s + 7) = updJ (s5J _ s C X V P Q (s + 7)) k v
    unfold s5J; simp
theorem s5_s8 (k : Nat) (v : Int64) : zsJ (s5 h s C X V P Q) (s + 8) k v = s5 h s C X V P (updJ Q k v) := by
  refine congrArg (fun f => ((h.1, h.2.1, h.2.2.1, h.2.2.2.1, f, h.2.2.2.2.2) : Zh)) (s5_set _ _ _ _ _ (fun a ha => ?_) ?_)
  · show s5J _ s C X V P (updJ Q k v) a = s5J _ s C X V P Q a
    unfold s5J; simp only [if_neg ha]
  · show s5J _ s C X V P (updJ Q k v) (s + 8) = updJ (s5J _ s C X V P Q (s + 8)) k v
    unfold s5J; simp
theorem s5_self : s5 h s (zJ h (s + 4)) (zJ h (s + 5)) (zJ h (s + 6)) (zJ h (s + 7)) (zJ h (s + 8)) = h := by
  refine congrArg (fun f => ((h.1, h.2.1, h.2.2.1, h.2.2.2.1, f, h.2.2.2.2.2) : Zh)) ?_
  funext a
  unfold s5J
  by_cases h4 : a = s + 4
  · rw [if_pos h4, h4]; rfl
  rw [if_neg h4]
  by_cases h5 : a = s + 5
  · rw [if_pos h5, h5]; rfl
  rw [if_neg h5]
  by_cases h6 : a = s + 6
  · rw [if_pos h6, h6]; rfl
  rw [if_neg h6]
  by_cases h7 : a = s + 7
  · rw [if_pos h7, h7]; rfl
  rw [if_neg h7]
  by_cases h8 : a = s + 8
  · rw [if_pos h8, h8]; rfl
  rw [if_neg h8]
theorem s5_m : scM s h (s5 h s C X V P Q) := ⟨⟨rfl, rfl⟩, fun _ => ⟨rfl, rfl⟩, fun _ _ => rfl, fun _ _ _ => rfl, fun a k ha => s5_n h s C X V P Q a k (by omega)⟩
end S5
/-- the first n places by f -/
def pre (n : Nat) (f g0 : Nat → Int64) : Nat → Int64 := fun y => if y < n then f y else g0 y
theorem pre_s (f g0 : Nat → Int64) (k : Nat) : updJ (pre k f g0) k (f k) = pre (k + 1) f g0 := by
  funext y
  unfold updJ pre
  by_cases h1 : y = k
  · rw [if_pos h1, if_pos (by omega), h1]
  · rw [if_neg h1]
    by_cases h2 : y < k
    · rw [if_pos h2, if_pos (by omega)]
    · rw [if_neg h2, if_neg (by omega)]
theorem pre_0 (f g0 : Nat → Int64) : pre 0 f g0 = g0 := funext fun y => if_neg (Nat.not_lt_zero y)
theorem pre_i (f g0 : Nat → Int64) {n y : Nat} (h : y < n) : pre n f g0 y = f y := if_pos h
theorem pre_p (n : Nat) (f f' g0 : Nat → Int64) : pre n f (pre n f' g0) = pre n f g0 := by
  funext y
  unfold pre
  by_cases h1 : y < n
  · rw [if_pos h1, if_pos h1]
  · rw [if_neg h1, if_neg h1, if_neg h1]
theorem pre_e {n : Nat} {f f' : Nat → Int64} (g0 : Nat → Int64) (h : ∀ y, y < n → f y = f' y) : pre n f g0 = pre n f' g0 := by
  funext y
  unfold pre
  by_cases h1 : y < n
  · rw [if_pos h1, if_pos h1, h y h1]
  · rw [if_neg h1, if_neg h1]
theorem pre_u {n k : Nat} (f f' g0 : Nat → Int64) (v : Int64) (hk : k < n) (h1 : f' k = v) (h2 : ∀ y, y < n → y ≠ k → f' y = f y) : updJ (pre n f g0) k v = pre n f' g0 := by
  funext y
  unfold updJ pre
  by_cases h3 : y = k
  · rw [if_pos h3, if_pos (by omega), h3, h1]
  · rw [if_neg h3]
    by_cases h4 : y < n
    · rw [if_pos h4, if_pos h4, h2 y h4 h3]
    · rw [if_neg h4, if_neg h4]
theorem pre_c (n : Nat) (f g0 : Nat → Int64) (g : Nat → Int64) : va_cpy (pre n f g0) g 0 0 n = pre n f g := by
  funext y
  unfold va_cpy pre
  by_cases h1 : y < n
  · rw [if_pos ⟨Nat.zero_le _, by omega⟩, if_pos (show 0 + (y - 0) < n by omega), if_pos h1, show 0 + (y - 0) = y by omega]
  · rw [if_neg (by omega), if_neg h1]
def bkv (T : Nat → Nat → Int64) (r : Nat) : Nat → Nat → Int64
  | 0, i => T i r
  | k + 1, i => sF (fun j => T i j * bkv T r k j) (List.range r)
def bkS (T : Nat → Nat → Int64) (r : Nat) : Nat → Int64
  | 0 => 1
  | 1 => -T r r
  | k + 2 => -sF (fun j => T r j * bkv T r k j) (List.range r)
def bkP (T : Nat → Nat → Int64) : Nat → Nat → Int64
  | 0, k => if k = 0 then 1 else 0
  | r + 1, k => if k ≤ r + 1 then sF (fun j => bkS T r (k - j) * bkP T r j) (List.range (min k r + 1)) else 0
theorem bkP_hi (T : Nat → Nat → Int64) : ∀ r k, r < k → bkP T r k = 0
  | 0, k, h => if_neg (by omega)
  | r + 1, k, h => if_neg (by omega)
theorem nI_sub2 {j k : Nat} (h : j ≤ k) : nI k - nI j = nI (k - j) := by
  have e := nI_add (k - j) j
  rw [Nat.sub_add_cancel h] at e
  rw [← e]; grind
theorem e10r (i j : Nat) : nI i * (10 : Int32) + nI j = nI (10 * i + j) := by rw [nI_o 10, pk_mul, nI_add, Nat.mul_comm]
theorem rowTimes_ok {g : Zh} {s b i z lb : Nat} (r2 : zR g s 2 = some (s + 3)) (l2 : zL g (s + 3) = 100) (hb : zL g b = lb) (hlb : z ≤ lb) (hlb2 : lb ≤ 100) (hi : i < 10) (hz : z ≤ 10) {T : Nat → Int64} {f : Nat → Int64} (hT : ∀ j, j < z → zJ g (s + 3) (10 * i + j) = T j) (hf : ∀ j, j < z → zJ g b j = f j) : gX5_rowTimes g s (nI i) (nI z) (some b) = some (sF (fun j => T j * f j) (List.range z)) := by
  unfold gX5_rowTimes
  refine zlp_it (R := Option Int64) (z := fun (_ : Int64) (_ : Int32) => (none : Option (Int64))) (F := gX5_rowTimes_L1 g s (nI i) (nI z) (some b)) (fun k (F : Int64 → Int32 → Option Int64) => F (sF (fun j => T j * f j) (List.range k)) (nI k)) _ z ?_ ?_ zFU (by unfold zFU; omega)
  · intro k hk r
    show gX5_rowTimes_L1 g s (nI i) (nI z) (some b) r (sF (fun j => T j * f j) (List.range k)) (nI k) = r (sF (fun j => T j * f j) (List.range (k + 1))) (nI (k + 1))
    rw [sF_range]
    have i1 : zin (nI (10 * i + k)) (zL g (s + 3)) = true := by rw [l2]; exact zin_nI (by omega) (by omega)
    have i2 : zin (nI k) (zL g b) = true := by rw [hb]; exact zin_nI (by omega) (by omega)
    unfold gX5_rowTimes_L1
    rw [if_neg (zge_n hk (by omega)), zlt_, r2, zob_s, e10r, i1, zg_1, zob_s, i2, zg_1, zlt_, zx_nI (show 10 * i + k < 2 ^ 31 by omega), zx_nI (show k < 2 ^ 31 by omega), hT k hk, hf k hk, ← nI_sc]
  · intro r
    show gX5_rowTimes_L1 g s (nI i) (nI z) (some b) r _ (nI z) = _
    unfold gX5_rowTimes_L1
    rw [if_pos (Int32.le_refl _)]
section Berk
variable {h : Zh} {s n : Nat} {T : Nat → Nat → Int64}
theorem s5_cpy (C X V P Q : Nat → Int64) (f X0 : Nat → Int64) (r : Nat) (hX : X = pre r f X0) : zcJ (s5 h s C X V P Q) (s + 5) 0 (s + 8) 0 r = s5 h s C X V P (pre r f Q) := by
  refine congrArg (fun f => ((h.1, h.2.1, h.2.2.1, h.2.2.2.1, f, h.2.2.2.2.2) : Zh)) ?_
  funext a
  funext b
  show (if a = s + 8 then va_cpy (zJ (s5 h s C X V P Q) (s + 5)) (zJ (s5 h s C X V P Q) (s + 8)) 0 0 r b else s5J _ s C X V P Q a b) = _
  by_cases ha : a = s + 8
  · rw [if_pos ha, show zJ (s5 h s C X V P Q) (s + 5) = X from funext fun k => s5_5 h s C X V P Q k, show zJ (s5 h s C X V P Q) (s + 8) = Q from funext fun k => s5_8 h s C X V P Q k, hX, pre_c]
    unfold s5J
    rw [if_neg (by omega), if_neg (by omega), if_neg (by omega), if_neg (by omega), if_pos ha]
  · rw [if_neg ha]
    unfold s5J
    rw [if_neg ha, if_neg ha]
theorem findStep_ok (hs : seR h s) (hn : n ≤ 10) (hT : ∀ i j, i < n → j < n → zJ h (s + 3) (10 * i + j) = T i j) (C X V P Q : Nat → Int64) {r : Nat} (hr : r < n) : gX5_findStep (s5 h s C X V P Q) s (nI r) = some (s5 h s C (pre r (bkv T r r) X) V (pre (r + 2) (bkS T r) P) (pre r (bkv T r r) Q)) := by
  obtain ⟨r2, l2⟩ : zR h s 2 = some (s + 3) ∧ zL h (s + 3) = 100 := hs 2 (by omega)
  obtain ⟨r4, l4⟩ : zR h s 4 = some (s + 5) ∧ zL h (s + 5) = 11 := hs 4 (by omega)
  obtain ⟨r6, l6⟩ : zR h s 6 = some (s + 7) ∧ zL h (s + 7) = 11 := hs 6 (by omega)
  obtain ⟨r7, l7⟩ : zR h s 7 = some (s + 8) ∧ zL h (s + 8) = 11 := hs 7 (by omega)
  have i0 : zin (0 : Int32) 11 = true := by decide
  have i1 : zin (1 : Int32) 11 = true := by decide
  have x0 : zx 0 = 0 := by decide
  have x1 : zx 1 = 1 := by decide
  have irr : zin (nI (10 * r + r)) 100 = true := zin_nI (by omega) (by omega)
  unfold gX5_findStep
  have hTr : ∀ C X V P Q, zJ (s5 h s C X V P Q) (s + 3) (10 * r + r) = T r r := fun C X V P Q => (s5_n _ _ _ _ _ _ _ _ _ (by omega)).trans (hT r r hr hr)
  have xrr : zx (nI (10 * r + r)) = 10 * r + r := zx_nI (by omega)
  repeat (first | rw [s5_R] | rw [r6] | rw [r2] | rw [e10r] | rw [s5_L] | rw [l6] | rw [l2] | rw [i0] | rw [i1] | rw [irr] | rw [x0] | rw [x1] | rw [xrr] | rw [hTr] | rw [s5_s7] | rw [zlt_] | rw [zjn_] | rw [zob_s] | rw [zg_1] | rw [zbi_s] | rw [zbI_s] | rw [zbr_s] | rw [zbR_s] | rw [zbV_s] | rw [zbj_s] | rw [zbJ_s] | rw [zcs_s] | rw [zcs_n])
  have hP : updJ (updJ P 0 1) 1 (-T r r) = pre 2 (bkS T r) P := by
    have h1 := pre_s (bkS T r) P 0
    have h2 := pre_s (bkS T r) P 1
    rw [pre_0] at h1
    rw [← h1] at h2
    exact h2
  rw [hP]
  have hcol : ∀ K : Zh → Option Zh, zlp (fun (_ : Int32) (_ : Zh) => (none : Option (Zh))) (gX5_findStep_L5 s (nI r) K) zFU 0 (s5 h s C X V (pre 2 (bkS T r) P) Q) = K (s5 h s C X V (pre 2 (bkS T r) P) (pre r (bkv T r 0) Q)) := by
    intro K
    have hh := zlp_it (R := Option Zh) (z := fun (_ : Int32) (_ : Zh) => (none : Option (Zh))) (F := gX5_findStep_L5 s (nI r) K) (fun i (F : Int32 → Zh → Option Zh) => F (nI i) (s5 h s C X V (pre 2 (bkS T r) P) (pre i (bkv T r 0) Q))) (K (s5 h s C X V (pre 2 (bkS T r) P) (pre r (bkv T r 0) Q))) r ?_ ?_ zFU (by unfold zFU; omega)
    · rw [pre_0] at hh
      exact hh
    · intro i hi rr
      show gX5_findStep_L5 s (nI r) K rr (nI i) (s5 h s C X V (pre 2 (bkS T r) P) (pre i (bkv T r 0) Q)) = rr (nI (i + 1)) (s5 h s C X V (pre 2 (bkS T r) P) (pre (i + 1) (bkv T r 0) Q))
      have j1 : zin (nI (10 * i + r)) 100 = true := zin_nI (by omega) (by omega)
      have j2 : zin (nI i) 11 = true := zin_nI (by omega) (by omega)
      have hb : bkv T r 0 i = T i r := rfl
      unfold gX5_findStep_L5
      rw [if_neg (zge_n hi (by omega))]
      have y1 : zx (nI (10 * i + r)) = 10 * i + r := zx_nI (by omega)
      have y2 : zx (nI i) = i := zx_nI (by omega)
      have hTi : ∀ C X V P Q, zJ (s5 h s C X V P Q) (s + 3) (10 * i + r) = T i r := fun C X V P Q => (s5_n _ _ _ _ _ _ _ _ _ (by omega)).trans (hT i r (by omega) hr)
      repeat (first | rw [s5_R] | rw [r7] | rw [r2] | rw [e10r] | rw [s5_L] | rw [l2] | rw [l7] | rw [j1] | rw [j2] | rw [y1] | rw [y2] | rw [hTi] | rw [s5_s8] | rw [zlt_] | rw [zjn_] | rw [zob_s] | rw [zg_1] | rw [zbi_s] | rw [zbI_s] | rw [zbr_s] | rw [zbR_s] | rw [zbV_s] | rw [zbj_s] | rw [zbJ_s] | rw [zcs_s] | rw [zcs_n])
      rw [← hb, pre_s, ← nI_sc]
    · intro rr
      show gX5_findStep_L5 s (nI r) K rr (nI r) _ = _
      unfold gX5_findStep_L5
      rw [if_pos (Int32.le_refl _)]
  rw [hcol]
  unfold gX5_findStep_J4
  let Xt : Nat → Nat → Int64 := fun t => if t = 0 then X else pre r (bkv T r t) X
  have hXt : ∀ t f, pre r f (Xt t) = pre r f X := fun t f => by
    show pre r f (if t = 0 then X else pre r (bkv T r t) X) = _
    by_cases h0 : t = 0
    · rw [if_pos h0]
    · rw [if_neg h0, pre_p]
  have hrow : ∀ (C X V P Q : Nat → Int64) (t i : Nat), i < n → gX5_rowTimes (s5 h s C X V P (pre r (bkv T r t) Q)) s (nI i) (nI r) (some (s + 8)) = some (sF (fun j => T i j * bkv T r t j) (List.range r)) := fun C X V P Q t i hi => rowTimes_ok (g := s5 h s C X V P (pre r (bkv T r t) Q)) r2 l2 l7 (by omega) (by omega) (by omega) (by omega) (fun j hj => (s5_n _ _ _ _ _ _ _ _ _ (by omega)).trans (hT i j hi (by omega))) (fun j hj => (s5_8 _ _ _ _ _ _ _ _).trans (pre_i _ _ hj))
  have hshift : ∀ t, t < r → ∀ (P' : Nat → Int64) (K : Zh → Option Zh), zlp (fun (_ : Int32) (_ : Zh) => (none : Option (Zh))) (gX5_findStep_L2 s (nI r) K) zFU 0 (s5 h s C (Xt t) V P' (pre r (bkv T r t) Q)) = K (s5 h s C (Xt (t + 1)) V P' (pre r (bkv T r t) Q)) := by
    intro t ht P' K
    have hh := zlp_it (R := Option Zh) (z := fun (_ : Int32) (_ : Zh) => (none : Option (Zh))) (F := gX5_findStep_L2 s (nI r) K) (fun i (F : Int32 → Zh → Option Zh) => F (nI i) (s5 h s C (pre i (bkv T r (t + 1)) (Xt t)) V P' (pre r (bkv T r t) Q))) (K (s5 h s C (pre r (bkv T r (t + 1)) (Xt t)) V P' (pre r (bkv T r t) Q))) r ?_ ?_ zFU (by unfold zFU; omega)
    · rw [pre_0, hXt] at hh
      have : Xt (t + 1) = pre r (bkv T r (t + 1)) X := if_neg (by omega)
      rw [this]
      exact hh
    · intro i hi rr
      show gX5_findStep_L2 s (nI r) K rr (nI i) (s5 h s C (pre i (bkv T r (t + 1)) (Xt t)) V P' (pre r (bkv T r t) Q)) = rr (nI (i + 1)) (s5 h s C (pre (i + 1) (bkv T r (t + 1)) (Xt t)) V P' (pre r (bkv T r t) Q))
      have j2 : zin (nI i) 11 = true := zin_nI (by omega) (by omega)
      have hb : bkv T r (t + 1) i = sF (fun j => T i j * bkv T r t j) (List.range r) := rfl
      unfold gX5_findStep_L2
      rw [if_neg (zge_n hi (by omega))]
      have y2 : zx (nI i) = i := zx_nI (by omega)
      have hri := fun X' => hrow C X' V P' Q t i (by omega)
      repeat (first | rw [s5_R] | rw [r4] | rw [r7] | rw [hri] | rw [s5_L] | rw [l4] | rw [j2] | rw [y2] | rw [s5_s5] | rw [zlt_] | rw [zjn_] | rw [zob_s] | rw [zg_1] | rw [zbi_s] | rw [zbI_s] | rw [zbr_s] | rw [zbR_s] | rw [zbV_s] | rw [zbj_s] | rw [zbJ_s] | rw [zcs_s] | rw [zcs_n])
      rw [← hb, pre_s, ← nI_sc]
    · intro rr
      show gX5_findStep_L2 s (nI r) K rr (nI r) _ = _
      unfold gX5_findStep_L2
      rw [if_pos (Int32.le_refl _)]
  have hh := zlp_it (R := Option Zh) (z := fun (_ : Int32) (_ : Zh) => (none : Option (Zh))) (F := gX5_findStep_L3 s (nI r)) (fun t (F : Int32 → Zh → Option Zh) => F (nI (t + 2)) (s5 h s C (Xt t) V (pre (t + 2) (bkS T r) P) (pre r (bkv T r t) Q))) (some (s5 h s C (Xt r) V (pre (r + 2) (bkS T r) P) (pre r (bkv T r r) Q))) r ?_ ?_ zFU (by unfold zFU; omega)
  · have : Xt r = pre r (bkv T r r) X := by
      show (if r = 0 then X else pre r (bkv T r r) X) = _
      by_cases h0 : r = 0
      · rw [if_pos h0, h0, pre_0]
      · rw [if_neg h0]
    rw [this] at hh
    exact hh
  · intro t ht rr
    show gX5_findStep_L3 s (nI r) rr (nI (t + 2)) (s5 h s C (Xt t) V (pre (t + 2) (bkS T r) P) (pre r (bkv T r t) Q)) = rr (nI (t + 1 + 2)) (s5 h s C (Xt (t + 1)) V (pre (t + 1 + 2) (bkS T r) P) (pre r (bkv T r (t + 1)) Q))
    have j2 : zin (nI (t + 2)) 11 = true := zin_nI (by omega) (by omega)
    have hb : bkS T r (t + 2) = -sF (fun j => T r j * bkv T r t j) (List.range r) := rfl
    unfold gX5_findStep_L3
    rw [if_neg (show ¬ nI r + 1 < nI (t + 2) by rw [← nI_sc]; exact nI_nlt (by omega) (by omega))]
    have y2 : zx (nI (t + 2)) = t + 2 := zx_nI (by omega)
    have hri := hrow C (Xt t) V (pre (t + 2) (bkS T r) P) Q t r hr
    repeat (first | rw [s5_R] | rw [r6] | rw [r7] | rw [hri] | rw [s5_L] | rw [l6] | rw [j2] | rw [y2] | rw [s5_s7] | rw [zlt_] | rw [zjn_] | rw [zob_s] | rw [zg_1] | rw [zbi_s] | rw [zbI_s] | rw [zbr_s] | rw [zbR_s] | rw [zbV_s] | rw [zbj_s] | rw [zbJ_s] | rw [zcs_s] | rw [zcs_n])
    rw [← hb, pre_s, hshift t ht]
    unfold gX5_findStep_J1
    have jc : zcp (s5 h s C (Xt (t + 1)) V (pre (t + 2 + 1) (bkS T r) P) (pre r (bkv T r t) Q)) (s + 5) 0 (s + 8) 0 (nI r) = true := by
      unfold zcp
      rw [s5_L, s5_L, l4, l7, zx_nI (show r < 2 ^ 31 by omega), x0]
      have b1 : decide (¬ (0 : Int32) < 0) = true := by decide
      have b2 : decide (¬ nI r < 0) = true := decide_eq_true (nI_pos (by omega))
      have b3 : decide (0 + r ≤ 11) = true := decide_eq_true (by omega)
      rw [b1, b2, b3]; rfl
    have y3 : zx (nI r) = r := zx_nI (by omega)
    have hcp := s5_cpy (h := h) (s := s) C (Xt (t + 1)) V (pre (t + 2 + 1) (bkS T r) P) (pre r (bkv T r t) Q) (bkv T r (t + 1)) X r (if_neg (by omega))
    repeat (first | rw [s5_R] | rw [r4] | rw [r7] | rw [jc] | rw [x0] | rw [y3] | rw [hcp] | rw [zlt_] | rw [zjn_] | rw [zob_s] | rw [zg_1] | rw [zbi_s] | rw [zbI_s] | rw [zbr_s] | rw [zbR_s] | rw [zbV_s] | rw [zbj_s] | rw [zbJ_s] | rw [zcs_s] | rw [zcs_n])
    rw [pre_p, ← nI_sc]
  · intro rr
    show gX5_findStep_L3 s (nI r) rr (nI (r + 2)) _ = _
    unfold gX5_findStep_L3
    rw [if_pos (by rw [← nI_sc]; exact nI_lt (by omega) (by omega))]
def mixP (T : Nat → Nat → Int64) (r t : Nat) : Nat → Int64 := fun y => if r + 1 < y + t then bkP T (r + 1) y else bkP T r y
theorem bkStep_ok (hs : seR h s) (hn : n ≤ 10) (hT : ∀ i j, i < n → j < n → zJ h (s + 3) (10 * i + j) = T i j) (C0 X V P Q : Nat → Int64) {r : Nat} (hr : r < n) (K : Zh → Option Zh) : zlp (fun (_ : Int32) (_ : Zh) => (none : Option (Zh))) (gX5_findPolynomial_L6 s (nI r) K) zFU (nI (r + 1)) (s5 h s (pre 11 (bkP T r) C0) X V (pre (r + 2) (bkS T r) P) Q) = K (s5 h s (pre 11 (bkP T (r + 1)) C0) X V (pre (r + 2) (bkS T r) P) Q) := by
  obtain ⟨r3, l3⟩ : zR h s 3 = some (s + 4) ∧ zL h (s + 4) = 11 := hs 3 (by omega)
  obtain ⟨r6, l6⟩ : zR h s 6 = some (s + 7) ∧ zL h (s + 7) = 11 := hs 6 (by omega)
  have hh := zlp_it (R := Option Zh) (z := fun (_ : Int32) (_ : Zh) => (none : Option (Zh))) (F := gX5_findPolynomial_L6 s (nI r) K) (fun t (F : Int32 → Zh → Option Zh) => F (nI (r + 2 - t) - 1) (s5 h s (pre 11 (mixP T r t) C0) X V (pre (r + 2) (bkS T r) P) Q)) (K (s5 h s (pre 11 (mixP T r (r + 2)) C0) X V (pre (r + 2) (bkS T r) P) Q)) (r + 2) ?_ ?_ zFU (by unfold zFU; omega)
  · have e1 : mixP T r 0 = bkP T r := funext fun y => by
      unfold mixP
      by_cases h1 : r + 1 < y + 0
      · rw [if_pos h1, bkP_hi T _ _ (by omega), bkP_hi T _ _ (by omega)]
      · rw [if_neg h1]
    have e2 : mixP T r (r + 2) = bkP T (r + 1) := funext fun y => if_pos (by omega)
    rw [e1, e2, show nI (r + 2 - 0) - 1 = nI (r + 1) from nI_pred (r + 1)] at hh
    exact hh
  · intro t ht rr
    obtain ⟨k, hk⟩ : ∃ k, k = r + 1 - t := ⟨_, rfl⟩
    have ek : r + 2 - t = k + 1 := by omega
    have ek2 : r + 2 - (t + 1) = k := by omega
    show gX5_findPolynomial_L6 s (nI r) K rr (nI (r + 2 - t) - 1) (s5 h s (pre 11 (mixP T r t) C0) X V (pre (r + 2) (bkS T r) P) Q) = rr (nI (r + 2 - (t + 1)) - 1) (s5 h s (pre 11 (mixP T r (t + 1)) C0) X V (pre (r + 2) (bkS T r) P) Q)
    rw [ek, ek2, nI_pred]
    unfold gX5_findPolynomial_L6
    rw [if_neg (nI_pos (by omega)), zjn_]
    have hsum := zlp_it (R := Option Zh) (z := fun (_ : Int64) (_ : Int32) => (none : Option (Zh))) (F := gX5_findPolynomial_L5 s (nI r) (nI k) (s5 h s (pre 11 (mixP T r t) C0) X V (pre (r + 2) (bkS T r) P) Q) (gX5_findPolynomial_J4 s (nI k) (s5 h s (pre 11 (mixP T r t) C0) X V (pre (r + 2) (bkS T r) P) Q) rr)) (fun j (F : Int64 → Int32 → Option Zh) => F (sF (fun j => bkS T r (k - j) * bkP T r j) (List.range j)) (nI j)) (gX5_findPolynomial_J4 s (nI k) (s5 h s (pre 11 (mixP T r t) C0) X V (pre (r + 2) (bkS T r) P) Q) rr (sF (fun j => bkS T r (k - j) * bkP T r j) (List.range (min k r + 1)))) (min k r + 1) ?_ ?_ zFU (by unfold zFU; omega)
    · refine Eq.trans hsum ?_
      have e1 : sF (fun j => bkS T r (k - j) * bkP T r j) (List.range (min k r + 1)) = bkP T (r + 1) k := (if_pos (by omega)).symm
      have j2 : zin (nI k) 11 = true := zin_nI (by omega) (by omega)
      rw [e1]
      unfold gX5_findPolynomial_J4
      rw [zlt_, s5_R, r3, zob_s, s5_L, l3, j2, zg_1, zlt_, zx_nI (show k < 2 ^ 31 by omega), s5_s4, pre_u (mixP T r t) (mixP T r (t + 1)) C0 (bkP T (r + 1) k) (by omega) (if_pos (by omega)) (fun y hy hne => by
        unfold mixP
        by_cases h1 : r + 1 < y + t
        · rw [if_pos h1, if_pos (by omega)]
        · rw [if_neg h1, if_neg (by omega)]), show nI k + (-1) = nI k - 1 by grind]
    · intro j hj rr'
      show gX5_findPolynomial_L5 s (nI r) (nI k) _ _ rr' (sF (fun j => bkS T r (k - j) * bkP T r j) (List.range j)) (nI j) = rr' (sF (fun j => bkS T r (k - j) * bkP T r j) (List.range (j + 1))) (nI (j + 1))
      have j1 : zin (nI (k - j)) 11 = true := zin_nI (by omega) (by omega)
      have j2 : zin (nI j) 11 = true := zin_nI (by omega) (by omega)
      have em : mixP T r t j = bkP T r j := if_neg (by omega)
      rw [sF_range]
      unfold gX5_findPolynomial_L5
      rw [if_neg (nI_nlt (by omega) (by omega)), if_neg (nI_nlt (by omega) (by omega)), zlt_, s5_R, r6, zob_s, nI_sub2 (by omega), s5_L, l6, j1, zg_1, zlt_, s5_R, r3, zob_s, s5_L, l3, j2, zg_1, zlt_, zx_nI (show k - j < 2 ^ 31 by omega), zx_nI (show j < 2 ^ 31 by omega), s5_7, s5_4, pre_i _ _ (show k - j < r + 2 by omega), pre_i _ _ (show j < 11 by omega), em, ← nI_sc]
    · intro rr'
      show gX5_findPolynomial_L5 s (nI r) (nI k) _ _ rr' _ (nI (min k r + 1)) = _
      unfold gX5_findPolynomial_L5
      by_cases h1 : nI k < nI (min k r + 1)
      · rw [if_pos h1]
      · rw [if_neg h1, if_pos (nI_lt (by
          apply Classical.byContradiction
          intro hh
          exact h1 (nI_lt (by omega) (by omega))) (by omega))]
  · intro rr
    show gX5_findPolynomial_L6 s (nI r) K rr (nI (r + 2 - (r + 2)) - 1) _ = _
    rw [Nat.sub_self]
    unfold gX5_findPolynomial_L6
    rw [if_pos (by decide)]
theorem findPoly_ok (hs : seR h s) (hn : n ≤ 10) (hT : ∀ i j, i < n → j < n → zJ h (s + 3) (10 * i + j) = T i j) (h13 : zI h s 13 = nI n) (C X V P Q : Nat → Int64) : ∃ C' X' P' Q', gX5_findPolynomial (s5 h s C X V P Q) s = some (s5 h s C' X' V P' Q') ∧ ∀ k, k ≤ n → C' k = bkP T n (n - k) := by
  obtain ⟨r3, l3⟩ : zR h s 3 = some (s + 4) ∧ zL h (s + 4) = 11 := hs 3 (by omega)
  have i0 : zin (0 : Int32) 11 = true := by decide
  have x0 : zx 0 = 0 := by decide
  have hfill : gJ7_fill_d0a16 (s5 h s C X V P Q) (some (s + 4)) 0 = some (s5 h s (pre 11 (fun _ => 0) C) X V P Q) := by
    rw [fillJ_ok (a := s + 4) (m := 11) (h := s5 h s C X V P Q) l3 (by omega)]
    refine congrArg some (congrArg (fun f => ((h.1, h.2.1, h.2.2.1, h.2.2.2.1, f, h.2.2.2.2.2) : Zh)) ?_)
    funext a
    show (if a = s + 4 then z0f (zJ (s5 h s C X V P Q) (s + 4)) 11 else s5J _ s C X V P Q a) = s5J _ s (pre 11 (fun _ => 0) C) X V P Q a
    rw [show zJ (s5 h s C X V P Q) (s + 4) = C from funext fun k => s5_4 h s C X V P Q k]
    unfold s5J
    by_cases ha : a = s + 4
    · rw [if_pos ha, if_pos ha]; rfl
    · rw [if_neg ha, if_neg ha, if_neg ha]
  unfold gX5_findPolynomial
  rw [zlt_, s5_R, r3, hfill, zbV_s, zlt_, s5_R, r3, zob_s, s5_L, l3, i0, zg_1, zlt_, x0, s5_s4, zjn_, pre_u (fun _ => 0) (bkP T 0) C 1 (by omega) rfl (fun y _ hy => if_neg hy)]
  let Xr : Nat → (Nat → Int64) × (Nat → Int64) × (Nat → Int64) := fun r => Nat.rec (X, P, Q) (fun r a => (pre r (bkv T r r) a.1, pre (r + 2) (bkS T r) a.2.1, pre r (bkv T r r) a.2.2)) r
  have hmain := zlp_it (R := Option Zh) (z := fun (_ : Int32) (_ : Zh) => (none : Option (Zh))) (F := gX5_findPolynomial_L7 s (gX5_findPolynomial_J2 s)) (fun r (F : Int32 → Zh → Option Zh) => F (nI r) (s5 h s (pre 11 (bkP T r) C) (Xr r).1 V (Xr r).2.1 (Xr r).2.2)) (gX5_findPolynomial_J2 s (s5 h s (pre 11 (bkP T n) C) (Xr n).1 V (Xr n).2.1 (Xr n).2.2)) n ?_ ?_ zFU (by unfold zFU; omega)
  · let rv : Nat → Nat → Int64 := fun t y => if y < t ∨ (n < y + t ∧ y ≤ n) then bkP T n (n - y) else bkP T n y
    have hrev := zlp_it (R := Option Zh) (z := fun (_ : Int32) (_ : Zh) => (none : Option (Zh))) (F := gX5_findPolynomial_L1 s) (fun t (F : Int32 → Zh → Option Zh) => F (nI t) (s5 h s (pre 11 (rv t) C) (Xr n).1 V (Xr n).2.1 (Xr n).2.2)) (some (s5 h s (pre 11 (rv ((n + 1) / 2)) C) (Xr n).1 V (Xr n).2.1 (Xr n).2.2)) ((n + 1) / 2) ?_ ?_ zFU (by unfold zFU; omega)
    · have e0 : rv 0 = bkP T n := funext fun y => if_neg (by omega)
      rw [e0] at hrev
      refine ⟨pre 11 (rv ((n + 1) / 2)) C, (Xr n).1, (Xr n).2.1, (Xr n).2.2, Eq.trans hmain hrev, fun k hk => ?_⟩
      rw [pre_i _ _ (by omega)]
      show (if k < (n + 1) / 2 ∨ (n < k + (n + 1) / 2 ∧ k ≤ n) then bkP T n (n - k) else bkP T n k) = _
      by_cases h1 : k < (n + 1) / 2 ∨ (n < k + (n + 1) / 2 ∧ k ≤ n)
      · rw [if_pos h1]
      · rw [if_neg h1, show n - k = k by omega]
    · intro t ht rr
      show gX5_findPolynomial_L1 s rr (nI t) (s5 h s (pre 11 (rv t) C) (Xr n).1 V (Xr n).2.1 (Xr n).2.2) = rr (nI (t + 1)) (s5 h s (pre 11 (rv (t + 1)) C) (Xr n).1 V (Xr n).2.1 (Xr n).2.2)
      have j1 : zin (nI t) 11 = true := zin_nI (by omega) (by omega)
      have j2 : zin (nI (n - t)) 11 = true := zin_nI (by omega) (by omega)
      have e2 : (2 : Int32) * nI t = nI (2 * t) := by rw [nI_o 2, pk_mul]
      have v1 : rv t t = bkP T n t := if_neg (by omega)
      have v2 : rv t (n - t) = bkP T n (n - t) := if_neg (by omega)
      let mid : Nat → Int64 := fun y => if y = t then bkP T n (n - t) else rv t y
      have u1 : updJ (pre 11 (rv t) C) t (bkP T n (n - t)) = pre 11 mid C := pre_u _ _ _ _ (by omega) (if_pos rfl) (fun y _ hy => if_neg hy)
      have u2 : updJ (pre 11 mid C) (n - t) (bkP T n t) = pre 11 (rv (t + 1)) C := pre_u _ _ _ _ (by omega) (by
        show (if n - t < t + 1 ∨ (n < n - t + (t + 1) ∧ n - t ≤ n) then bkP T n (n - (n - t)) else bkP T n (n - t)) = _
        rw [if_pos (by omega), show n - (n - t) = t by omega]) (fun y hy hne => by
        show (if y < t + 1 ∨ (n < y + (t + 1) ∧ y ≤ n) then bkP T n (n - y) else bkP T n y) = if y = t then bkP T n (n - t) else (if y < t ∨ (n < y + t ∧ y ≤ n) then bkP T n (n - y) else bkP T n y)
        by_cases h1 : y = t
        · rw [if_pos h1, if_pos (by omega), h1]
        · rw [if_neg h1]
          by_cases h2 : y < t ∨ (n < y + t ∧ y ≤ n)
          · rw [if_pos h2, if_pos (by omega)]
          · rw [if_neg h2, if_neg (by omega)])
      unfold gX5_findPolynomial_L1
      rw [s5_I, h13, e2, if_neg (zge_n (show 2 * t < n by omega) (by omega))]
      have es : nI n - nI t = nI (n - t) := nI_sub2 (by omega)
      have xt : zx (nI t) = t := zx_nI (by omega)
      have xn : zx (nI (n - t)) = n - t := zx_nI (by omega)
      have w1 : pre 11 (rv t) C t = bkP T n t := (pre_i _ _ (by omega)).trans v1
      have w2 : pre 11 (rv t) C (n - t) = bkP T n (n - t) := (pre_i _ _ (by omega)).trans v2
      repeat (first | rw [s5_R] | rw [r3] | rw [s5_I] | rw [h13] | rw [es] | rw [s5_L] | rw [l3] | rw [j1] | rw [j2] | rw [xt] | rw [xn] | rw [s5_4] | rw [w1] | rw [w2] | rw [s5_s4] | rw [u1] | rw [u2] | rw [zlt_] | rw [zjn_] | rw [zob_s] | rw [zg_1] | rw [zbi_s] | rw [zbI_s] | rw [zbr_s] | rw [zbR_s] | rw [zbV_s] | rw [zbj_s] | rw [zbJ_s] | rw [zcs_s] | rw [zcs_n])
      rw [← nI_sc]
    · intro rr
      show gX5_findPolynomial_L1 s rr (nI ((n + 1) / 2)) _ = _
      have e2 : (2 : Int32) * nI ((n + 1) / 2) = nI (2 * ((n + 1) / 2)) := by rw [nI_o 2, pk_mul]
      unfold gX5_findPolynomial_L1
      rw [s5_I, h13, e2, if_pos (nI_le (by omega) (by omega))]
  · intro r hr rr
    show gX5_findPolynomial_L7 s (gX5_findPolynomial_J2 s) rr (nI r) (s5 h s (pre 11 (bkP T r) C) (Xr r).1 V (Xr r).2.1 (Xr r).2.2) = rr (nI (r + 1)) (s5 h s (pre 11 (bkP T (r + 1)) C) (pre r (bkv T r r) (Xr r).1) V (pre (r + 2) (bkS T r) (Xr r).2.1) (pre r (bkv T r r) (Xr r).2.2))
    unfold gX5_findPolynomial_L7
    rw [s5_I, h13, if_neg (zge_n hr (by omega)), findStep_ok hs hn hT _ _ _ _ _ hr, zbV_s, zlt_, zjn_, ← nI_sc, bkStep_ok hs hn hT _ _ _ _ _ hr]
    unfold gX5_findPolynomial_J3
    rw [← nI_sc]
  · intro rr
    show gX5_findPolynomial_L7 s (gX5_findPolynomial_J2 s) rr (nI n) _ = _
    unfold gX5_findPolynomial_L7
    rw [s5_I, h13, if_pos (Int32.le_refl _)]
end Berk
