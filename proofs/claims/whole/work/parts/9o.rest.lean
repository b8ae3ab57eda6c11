/-! the rest state, as a function; the class finds it -/
theorem chT2_tr {n : Nat} {L : List (List Nat)} {T : Nat → Nat → Int64} (hL : rdM L n n T) (h : chT2 n L (unC n) = true) : trOk T n (bkP T n) := by
  unfold chT2 at h
  rw [fcM_eq] at h
  obtain ⟨p, h1, h2⟩ := bkI_ok hL n (Nat.le_refl _) (fun p => syc (smA p) (syc (flK L p.tail 0 (unC n)) (syc (pwK L (p.tail ++ [0, 0, 0, 0]) 4 0 (unC n) []) (fcL (p.map absC) (fun a => shB n a)) false) false) false)
  rw [h1] at h
  obtain ⟨g1, h⟩ := syc_f h
  obtain ⟨g2, h⟩ := syc_f h
  have ht := rd_tail h2
  intro k hk
  have hlen : p.tail.length = n := ht.1
  have h3 := flK_ok hL (c := bkP T n) p.tail 0 (unC n) (by rw [hlen]; exact rd_cg ht (fun i _ => congrArg (bkP T n) (by omega))) (unC_ok n) g2 k (by rw [hlen]; exact hk)
  rw [Nat.zero_add] at h3
  exact h3.1
theorem sec_chT {N r m g : Nat} {e d : Int32} (hN : N ≤ 8) (hg : g ≤ 1) (he1 : 1 ≤ e.toInt) (he2 : e.toInt ≤ 4) (hd1 : -2 ≤ d.toInt) (hd2 : d.toInt ≤ 2) (hn : (hdL N r m g).length ≤ 10) (h : scK N r m g = true) : ∃ L', rdM L' (hdL N r m g).length (hdL N r m g).length (tbV N r e d m g) ∧ chT2 (hdL N r m g).length L' (unC (hdL N r m g).length) = true := by
  unfold scK at h
  rw [fcL_eq, syf_eq, Nat.ble_eq_true_of_le hn] at h
  have h' : fcM ((hdL N r m g).map (fun h => orL N r (olN N r h) h)) (fun os => fcM (xyM (fun f t => axN N f t (chP N r)) (hdL N r m g) os g) (fun X => fcM (xyM (fun f t => ayC N f t (chP N r)) (hdL N r m g) os g) (fun Y => fcM (unC (hdL N r m g).length) (fun U => [1, 2, 3, 4].all (fun e => [0, 1, 2, 18446744073709551614, 18446744073709551615].all (fun d => chT2 (hdL N r m g).length (edM (hdL N r m g).length e d X Y) U)))))) = true := h
  rw [fcM_eq, fcM_eq, fcM_eq, fcM_eq] at h'
  have he : ∃ e', e' ∈ [1, 2, 3, 4] ∧ e.toInt64 = jN e' := by
    have h0 : ∀ z : Nat, z ≤ 4 → e.toInt = z → e.toInt64 = jN z := fun z hz hh => Int64.toInt_inj.mp (by
      rw [Int32.toInt_toInt64, hh, jN_int]
      exact (Int.bmod_eq_of_le (by omega) (by omega)).symm)
    rcases (show e.toInt = 1 ∨ e.toInt = 2 ∨ e.toInt = 3 ∨ e.toInt = 4 by omega) with q | q | q | q
    · exact ⟨1, by decide, h0 1 (by decide) q⟩
    · exact ⟨2, by decide, h0 2 (by decide) q⟩
    · exact ⟨3, by decide, h0 3 (by decide) q⟩
    · exact ⟨4, by decide, h0 4 (by decide) q⟩
  have hd : ∃ d', d' ∈ [0, 1, 2, 18446744073709551614, 18446744073709551615] ∧ d.toInt64 = jN d' := by
    have h0 : ∀ (z : Int) (c : Nat), (jN c).toInt = z → d.toInt = z → d.toInt64 = jN c := fun z c hc hh => Int64.toInt_inj.mp (by
      rw [Int32.toInt_toInt64, hh, hc])
    rcases (show d.toInt = 0 ∨ d.toInt = 1 ∨ d.toInt = 2 ∨ d.toInt = -2 ∨ d.toInt = -1 by omega) with q | q | q | q | q
    · exact ⟨0, by decide, h0 _ 0 (by decide) q⟩
    · exact ⟨1, by decide, h0 _ 1 (by decide) q⟩
    · exact ⟨2, by decide, h0 _ 2 (by decide) q⟩
    · exact ⟨18446744073709551614, by decide, h0 _ 18446744073709551614 (by decide) q⟩
    · exact ⟨18446744073709551615, by decide, h0 _ 18446744073709551615 (by decide) q⟩
  obtain ⟨e', e1, e2⟩ := he
  obtain ⟨d', d1, d2⟩ := hd
  have h2 := List.all_eq_true.mp (List.all_eq_true.mp h' e' e1) d' d1
  refine ⟨_, ?_, h2⟩
  refine rdM_range (fun i hi => rd_range (fun j hj => ?_))
  rw [jN_mod]
  show jN (e' * _ + d' * _) = _
  rw [jN_add, jN_mul, jN_mul, xyM_ok hi hj, xyM_ok hi hj, ← e2, ← d2, sF_mul, sF_mul, ← sF_add]
  unfold tbV
  refine sF_cg _ (fun k _ => ?_)
  have hP : chP N r ≤ 8 := by unfold chP; split <;> omega
  obtain ⟨a1, a2⟩ := aSum_c (N := N) he1 he2 hd1 hd2 (tuP N r (hdA N r m g j) k) (hdA N r m g i) (chP N r) hP
  unfold tbT
  rw [sg_c (by omega) hg, a1]
  grind
theorem tr_ok {N r m g : Nat} {e d : Int32} (h2 : 2 ≤ N) (hN : N ≤ 8) (hr : r ≤ 1) (hm : m ≤ N) (hg : g ≤ 1) (he1 : 1 ≤ e.toInt) (he2 : e.toInt ≤ 4) (hd1 : -2 ≤ d.toInt) (hd2 : d.toInt ≤ 2) (hn : (hdL N r m g).length ≤ 10) : trOk (tbV N r e d m g) (hdL N r m g).length (bkP (tbV N r e d m g) (hdL N r m g).length) := by
  obtain ⟨L', h1, h3⟩ := sec_chT hN hg he1 he2 hd1 hd2 hn (scK_all h2 hN hr hm hg)
  exact chT2_tr h1 h3
def fstJ (f : Nat → Bool) : Nat → Nat → Nat
  | 0, j => j
  | u + 1, j => if f j = true then j else fstJ f u (j + 1)
def anyC (M : Nat → Nat → Int64) (n j : Nat) : Bool := (List.range n).any (fun i => decide (M i j ≠ 0))
def gdV (col : Nat → Int64) : Nat → Int64
  | 0 => 0
  | i + 1 => cmV (gdV col i) (col i)
def fnV (col : Nat → Int64) : Nat → Int64
  | 0 => 0
  | i + 1 => if fnV col i = 0 then col i else fnV col i
def byV (col : Nat → Int64) (n : Nat) : Int64 := if fnV col n < 0 then -gdV col n else gdV col n
def rtV (col : Nat → Int64) (n i : Nat) : Int64 := col i / byV col n
def gdB (col : Nat → Int64) (n z : Nat) : Bool := (List.range z).all (fun i => decide (absJ (rtV col n i) ≤ 1000000))
theorem anyC_t {M : Nat → Nat → Int64} {n j : Nat} : anyC M n j = true ↔ ∃ i, i < n ∧ M i j ≠ 0 := by
  unfold anyC
  rw [List.any_eq_true]
  exact ⟨fun ⟨i, h1, h2⟩ => ⟨i, List.mem_range.mp h1, of_decide_eq_true h2⟩, fun ⟨i, h1, h2⟩ => ⟨i, List.mem_range.mpr h1, decide_eq_true h2⟩⟩
theorem gdV_0 (col : Nat → Int64) : ∀ z, gdV col z = 0 ↔ ∀ i, i < z → col i = 0
  | 0 => ⟨fun _ i hi => absurd hi (Nat.not_lt_zero i), fun _ => rfl⟩
  | z + 1 => by
    show cmV (gdV col z) (col z) = 0 ↔ _
    rw [cmV_b.2.2, gdV_0 col z]
    exact ⟨fun h i hi => by
      rcases (show i < z ∨ i = z by omega) with h1 | h1
      · exact h.1 i h1
      · rw [h1]; exact h.2, fun h => ⟨fun i hi => h i (by omega), h z (by omega)⟩⟩
theorem fnV_0 (col : Nat → Int64) : ∀ z, fnV col z = 0 ↔ ∀ i, i < z → col i = 0
  | 0 => ⟨fun _ i hi => absurd hi (Nat.not_lt_zero i), fun _ => rfl⟩
  | z + 1 => by
    show (if fnV col z = 0 then col z else fnV col z) = 0 ↔ _
    by_cases h : fnV col z = 0
    · rw [if_pos h]
      have h2 := (fnV_0 col z).mp h
      exact ⟨fun h3 i hi => by
        rcases (show i < z ∨ i = z by omega) with h1 | h1
        · exact h2 i h1
        · rw [h1]; exact h3, fun h3 => h3 z (by omega)⟩
    · rw [if_neg h]
      exact ⟨fun hh => absurd hh h, fun h3 => (fnV_0 col z).mpr (fun i hi => h3 i (by omega))⟩
theorem fnV_st (col : Nat → Int64) {z : Nat} (h : fnV col z ≠ 0) : ∀ u, fnV col (z + u) = fnV col z
  | 0 => rfl
  | u + 1 => by
    show (if fnV col (z + u) = 0 then col (z + u) else fnV col (z + u)) = _
    rw [fnV_st col h u, if_neg h]
theorem gdV_le (col : Nat → Int64) : ∀ z i, i < z → col i ≠ 0 → (gdV col z).toInt.natAbs ≤ (col i).toInt.natAbs
  | 0, i, hi, _ => absurd hi (Nat.not_lt_zero i)
  | z + 1, i, hi, h => by
    show (cmV (gdV col z) (col z)).toInt.natAbs ≤ _
    rcases (show i < z ∨ i = z by omega) with h1 | h1
    · have h2 : gdV col z ≠ 0 := fun hh => h ((gdV_0 col z).mp hh i h1)
      exact Nat.le_trans (cmV_b.2.1 h2) (gdV_le col z i h1 h)
    · rw [h1] at h ⊢
      exact cmV_b.1 h
theorem fstJ_ok (f : Nat → Bool) : ∀ (u j : Nat), (∃ k, j ≤ k ∧ k < j + u ∧ f k = true) → (j ≤ fstJ f u j ∧ fstJ f u j < j + u ∧ f (fstJ f u j) = true) ∧ ∀ k, j ≤ k → k < fstJ f u j → f k = false
  | 0, j, h => by
    obtain ⟨k, h1, h2, -⟩ := h
    omega
  | u + 1, j, h => by
    show (j ≤ (if f j = true then j else fstJ f u (j + 1)) ∧ (if f j = true then j else fstJ f u (j + 1)) < j + (u + 1) ∧ f (if f j = true then j else fstJ f u (j + 1)) = true) ∧ ∀ k, j ≤ k → k < (if f j = true then j else fstJ f u (j + 1)) → f k = false
    by_cases hj : f j = true
    · rw [if_pos hj]
      exact ⟨⟨Nat.le_refl _, by omega, hj⟩, fun k h1 h2 => by omega⟩
    · rw [if_neg hj]
      obtain ⟨k, h1, h2, h3⟩ := h
      have hne : k ≠ j := fun hh => hj (hh ▸ h3)
      obtain ⟨⟨i1, i2, i3⟩, i4⟩ := fstJ_ok f u (j + 1) ⟨k, by omega, by omega, h3⟩
      refine ⟨⟨by omega, by omega, i3⟩, fun k h1 h2 => ?_⟩
      by_cases hk : k = j
      · rw [hk]; exact Bool.not_eq_true _ ▸ hj
      · exact i4 k (by omega) h2
/-- the column that is taken -/
def rsC (T : Nat → Nat → Int64) (n : Nat) (p : Nat → Int64) (c : Int) (i : Nat) : Int64 := rsM T n p c i (fstJ (anyC (rsM T n p c) n) n 0)
def rsB (T : Nat → Nat → Int64) (n : Nat) (p : Nat → Int64) (c : Int) : Bool := decide (zrN (shF c n p) n n 0 = 1) && gdB (rsC T n p c) n n
def rsR (T : Nat → Nat → Int64) (n : Nat) (p : Nat → Int64) (c : Int) (i : Nat) : Int64 := rtV (rsC T n p c) n i
theorem zr_1 {f : Nat → Int} {n : Nat} (h : zrN f n n 0 = 1) (h0 : f 0 ≠ 0) : 0 < n ∧ f (n - 1) ≠ 0 := by
  cases n with
  | zero => exact absurd h (by show ¬ (0 = 1); omega)
  | succ n =>
    refine ⟨by omega, ?_⟩
    have h1 : (if f (n + 1 - 0) = 0 then zrN f (n + 1) n 1 else 0) = 1 := h
    by_cases h2 : f (n + 1 - 0) = 0
    · rw [if_pos h2] at h1
      cases n with
      | zero => exact h0
      | succ n =>
        have h3 : (if f (n + 1 + 1 - 1) = 0 then zrN f (n + 1 + 1) n (1 + 1) else 1) = 1 := h1
        by_cases h4 : f (n + 1 + 1 - 1) = 0
        · rw [if_pos h4] at h3
          have hge : ∀ u k, k ≤ zrN f (n + 1 + 1) u k := by
            intro u
            induction u with
            | zero => intro k; exact Nat.le_refl _
            | succ u ih =>
              intro k
              show k ≤ if f (n + 1 + 1 - k) = 0 then zrN f (n + 1 + 1) u (k + 1) else k
              split
              · have := ih (k + 1); omega
              · exact Nat.le_refl _
          have := hge n (1 + 1)
          omega
        · exact h4
    · rw [if_neg h2] at h1
      exact absurd h1 (by decide)
theorem s5_cp68 (h : Zh) (s n : Nat) (C X V P Q : Nat → Int64) : zcJ (s5 h s C X V P Q) (s + 6) 0 (s + 8) 0 n = s5 h s C X V P (pre n V Q) := by
  refine congrArg (fun f => ((h.1, h.2.1, h.2.2.1, h.2.2.2.1, f, h.2.2.2.2.2) : Zh)) ?_
  funext a b
  show (if a = s + 8 then va_cpy (zJ (s5 h s C X V P Q) (s + 6)) (zJ (s5 h s C X V P Q) (s + 8)) 0 0 n b else s5J _ s C X V P Q a b) = _
  by_cases ha : a = s + 8
  · rw [if_pos ha, show zJ (s5 h s C X V P Q) (s + 6) = V from funext fun k => s5_6 h s C X V P Q k, show zJ (s5 h s C X V P Q) (s + 8) = Q from funext fun k => s5_8 h s C X V P Q k, va_pre, ha]
    unfold s5J
    rw [if_neg (by omega), if_neg (by omega), if_neg (by omega), if_neg (by omega), if_pos rfl]
  · rw [if_neg ha]
    unfold s5J
    simp only [if_neg ha]
theorem s5_fill6 (h : Zh) (s : Nat) (C X V P Q : Nat → Int64) (l6 : zL h (s + 6) = 10) : gJ7_fill_d0a16 (s5 h s C X V P Q) (some (s + 6)) 0 = some (s5 h s C X (pre 10 (fun _ => 0) V) P Q) := by
  rw [fillJ_ok (a := s + 6) (m := 10) (h := s5 h s C X V P Q) l6 (by omega)]
  refine congrArg some (congrArg (fun f => ((h.1, h.2.1, h.2.2.1, h.2.2.2.1, f, h.2.2.2.2.2) : Zh)) ?_)
  funext a
  show (if a = s + 6 then z0f (zJ (s5 h s C X V P Q) (s + 6)) 10 else s5J _ s C X V P Q a) = s5J _ s C X (pre 10 (fun _ => 0) V) P Q a
  rw [show zJ (s5 h s C X V P Q) (s + 6) = V from funext fun k => s5_6 h s C X V P Q k]
  unfold s5J
  by_cases ha : a = s + 6
  · rw [if_pos ha, if_neg (by omega), if_neg (by omega), if_pos ha]; rfl
  · rw [if_neg ha]
    simp only [if_neg ha]
section Cls
variable {h : Zh} {s n : Nat} {T : Nat → Nat → Int64} {p : Nat → Int64}
theorem applyTo_ok (hs : seR h s) (hn : n ≤ 10) (h13 : zI h s 13 = nI n) (hT : ∀ i j, i < n → j < n → zJ h (s + 3) (10 * i + j) = T i j) (C X V P Q : Nat → Int64) {x : Nat → Int64} (hP : ∀ m, m < n → P (n - 1 - m) = x m) {j : Nat} (hj : j < n) : ∃ Q', gX5_applyToUnit (s5 h s C X V P Q) s (nI j) = some (s5 h s C X (pre n (fun i => flM T n x (n - 1) i j) (pre 10 (fun i => unM i j) V)) P Q') := by
  obtain ⟨r5, l5⟩ : zR h s 5 = some (s + 6) ∧ zL h (s + 6) = 10 := hs 5 (by omega)
  obtain ⟨r6, l6⟩ : zR h s 6 = some (s + 7) ∧ zL h (s + 7) = 11 := hs 6 (by omega)
  obtain ⟨r7, l7⟩ : zR h s 7 = some (s + 8) ∧ zL h (s + 8) = 11 := hs 7 (by omega)
  obtain ⟨r2, l2⟩ : zR h s 2 = some (s + 3) ∧ zL h (s + 3) = 100 := hs 2 (by omega)
  have jj : zin (nI j) 10 = true := zin_nI (by omega) (by omega)
  have yj : zx (nI j) = j := zx_nI (by omega)
  have hu0 : updJ (pre 10 (fun _ => 0) V) j 1 = pre 10 (fun i => unM i j) V := pre_u _ _ _ _ (by omega) (if_pos rfl) (fun y _ hy => if_neg hy)
  unfold gX5_applyToUnit
  rw [zlt_, s5_R, r5, s5_fill6 h s C X V P Q l5, zbV_s, zlt_, s5_R, r5, zob_s, s5_L, l5, jj, zg_1, zlt_, yj, s5_s6, hu0, zlt_, s5_I, h13]
  generalize hW : pre 10 (fun i => unM i j) V = W
  have hW0 : pre n (fun i => flM T n x 0 i j) W = W := by
    rw [← hW]
    funext y
    unfold pre
    by_cases h1 : y < n
    · rw [if_pos h1, if_pos (by omega)]; rfl
    · rw [if_neg h1]
  let Qt : Nat → Nat → Int64 := fun t => if t = 0 then Q else pre n (fun i => flM T n x (t - 1) i j) Q
  have hQt : ∀ t f, pre n f (Qt t) = pre n f Q := fun t f => by
    show pre n f (if t = 0 then Q else pre n (fun i => flM T n x (t - 1) i j) Q) = _
    by_cases h0 : t = 0
    · rw [if_pos h0]
    · rw [if_neg h0, pre_p]
  have e2 : nI n - 2 = nI (n - 1 - 0) - 1 := by
    rw [Nat.sub_zero]
    have h1 := nI_pred (n - 1)
    rw [show n - 1 + 1 = n by omega] at h1
    rw [← h1]; grind
  rw [e2]
  refine ⟨Qt (n - 1), ?_⟩
  have hh := zlp_it (R := Option Zh) (z := fun (_ : Int32) (_ : Zh) => (none : Option (Zh))) (F := gX5_applyToUnit_L3 s (nI j)) (fun t (F : Int32 → Zh → Option Zh) => F (nI (n - 1 - t) - 1) (s5 h s C X (pre n (fun i => flM T n x t i j) W) P (Qt t))) (some (s5 h s C X (pre n (fun i => flM T n x (n - 1) i j) W) P (Qt (n - 1)))) (n - 1) ?_ ?_ zFU (by unfold zFU; omega)
  · rw [hW0] at hh
    exact hh
  · intro t ht rr
    obtain ⟨k, hk⟩ : ∃ k, k = n - 1 - (t + 1) := ⟨_, rfl⟩
    have ek : n - 1 - t = k + 1 := by omega
    have ek2 : n - 1 - (t + 1) = k := by omega
    show gX5_applyToUnit_L3 s (nI j) rr (nI (n - 1 - t) - 1) (s5 h s C X (pre n (fun i => flM T n x t i j) W) P (Qt t)) = rr (nI (n - 1 - (t + 1)) - 1) (s5 h s C X (pre n (fun i => flM T n x (t + 1) i j) W) P (Qt (t + 1)))
    rw [ek, ek2, nI_pred]
    have x0 : zx 0 = 0 := by decide
    have xn : zx (nI n) = n := zx_nI (by omega)
    have jc : ∀ V Q, zcp (s5 h s C X V P Q) (s + 6) 0 (s + 8) 0 (nI n) = true := fun V Q => by
      unfold zcp
      rw [s5_L, s5_L, l5, l7, xn, x0]
      have b1 : decide (¬ (0 : Int32) < 0) = true := by decide
      have b2 : decide (¬ nI n < 0) = true := decide_eq_true (nI_pos (by omega))
      have b3 : decide (0 + n ≤ 10) = true := decide_eq_true (by omega)
      have b4 : decide (0 + n ≤ 11) = true := decide_eq_true (by omega)
      rw [b1, b2, b3, b4]; rfl
    have hcp : pre n (pre n (fun i => flM T n x t i j) W) (Qt t) = pre n (fun i => flM T n x t i j) Q := by
      have h1 : pre n (pre n (fun i => flM T n x t i j) W) (Qt t) = pre n (fun i => flM T n x t i j) (Qt t) := pre_e _ (fun y hy => pre_i _ _ hy)
      rw [h1, hQt]
    have eQ : Qt (t + 1) = pre n (fun i => flM T n x t i j) Q := if_neg (by omega)
    have hmul : ∀ K : Zh → Option Zh, zlp (fun (_ : Int32) (_ : Zh) => (none : Option (Zh))) (gX5_applyToUnit_L2 s K) zFU 0 (s5 h s C X (pre n (fun i => flM T n x t i j) W) P (Qt (t + 1))) = K (s5 h s C X (pre n (fun i => mulF T n (flM T n x t) i j) W) P (Qt (t + 1))) := by
      intro K
      have hh := zlp_it (R := Option Zh) (z := fun (_ : Int32) (_ : Zh) => (none : Option (Zh))) (F := gX5_applyToUnit_L2 s K) (fun i (F : Int32 → Zh → Option Zh) => F (nI i) (s5 h s C X (pre i (fun i => mulF T n (flM T n x t) i j) (pre n (fun i => flM T n x t i j) W)) P (Qt (t + 1)))) (K (s5 h s C X (pre n (fun i => mulF T n (flM T n x t) i j) (pre n (fun i => flM T n x t i j) W)) P (Qt (t + 1)))) n ?_ ?_ zFU (by unfold zFU; omega)
      · rw [pre_0, pre_p] at hh
        exact hh
      · intro i hi rr'
        show gX5_applyToUnit_L2 s K rr' (nI i) (s5 h s C X (pre i (fun i => mulF T n (flM T n x t) i j) (pre n (fun i => flM T n x t i j) W)) P (Qt (t + 1))) = rr' (nI (i + 1)) (s5 h s C X (pre (i + 1) (fun i => mulF T n (flM T n x t) i j) (pre n (fun i => flM T n x t i j) W)) P (Qt (t + 1)))
        have hrow : ∀ V', gX5_rowTimes (s5 h s C X V' P (Qt (t + 1))) s (nI i) (nI n) (some (s + 8)) = some (mulF T n (flM T n x t) i j) := fun V' => rowTimes_ok (g := s5 h s C X V' P (Qt (t + 1))) r2 l2 l7 (by omega) (by omega) (by omega) hn (fun l hl => (s5_n _ _ _ _ _ _ _ _ _ (by omega)).trans (hT i l hi hl)) (fun l hl => (s5_8 _ _ _ _ _ _ _ _).trans (by rw [eQ]; exact pre_i _ _ hl))
        have ji : zin (nI i) 10 = true := zin_nI (by omega) (by omega)
        have yi : zx (nI i) = i := zx_nI (by omega)
        unfold gX5_applyToUnit_L2
        rw [s5_I, h13, if_neg (zge_n hi (by omega))]
        repeat (first | rw [s5_R] | rw [r5] | rw [r7] | rw [hrow] | rw [s5_L] | rw [l5] | rw [ji] | rw [yi] | rw [s5_s6] | rw [pre_s (fun i => mulF T n (flM T n x t) i j)] | rw [zlt_] | rw [zjn_] | rw [zob_s] | rw [zg_1] | rw [zbi_s] | rw [zbI_s] | rw [zbr_s] | rw [zbR_s] | rw [zbV_s] | rw [zbj_s] | rw [zbJ_s] | rw [zcs_s] | rw [zcs_n])
        rw [← nI_sc]
      · intro rr'
        show gX5_applyToUnit_L2 s K rr' (nI n) _ = _
        unfold gX5_applyToUnit_L2
        rw [s5_I, h13, if_pos (Int32.le_refl _)]
    have jk : zin (nI k) 11 = true := zin_nI (by omega) (by omega)
    have yk : zx (nI k) = k := zx_nI (by omega)
    have hPk : P k = x (t + 1) := by
      have := hP (t + 1) (by omega)
      rwa [show n - 1 - (t + 1) = k by omega] at this
    have hvj : pre n (fun i => mulF T n (flM T n x t) i j) W j = mulF T n (flM T n x t) j j := pre_i _ _ hj
    have hu : updJ (pre n (fun i => mulF T n (flM T n x t) i j) W) j (mulF T n (flM T n x t) j j + x (t + 1)) = pre n (fun i => flM T n x (t + 1) i j) W := by
      refine pre_u _ _ _ _ hj ?_ (fun y hy hne => ?_)
      · show flM T n x (t + 1) j j = _
        rw [flM_s, if_pos rfl]
      · show flM T n x (t + 1) y j = mulF T n (flM T n x t) y j
        rw [flM_s, if_neg hne]; grind
    unfold gX5_applyToUnit_L3
    rw [if_neg (nI_pos (by omega))]
    repeat (first | rw [s5_R] | rw [r5] | rw [r7] | rw [s5_I] | rw [h13] | rw [jc] | rw [x0] | rw [xn] | rw [s5_cp68] | rw [hcp] | rw [zlt_] | rw [zjn_] | rw [zob_s] | rw [zg_1] | rw [zbi_s] | rw [zbI_s] | rw [zbr_s] | rw [zbR_s] | rw [zbV_s] | rw [zbj_s] | rw [zbJ_s] | rw [zcs_s] | rw [zcs_n])
    rw [← eQ, hmul]
    unfold gX5_applyToUnit_J1
    repeat (first | rw [s5_R] | rw [r5] | rw [r6] | rw [s5_L] | rw [l5] | rw [l6] | rw [jj] | rw [jk] | rw [yj] | rw [yk] | rw [s5_6] | rw [s5_7] | rw [hvj] | rw [hPk] | rw [s5_s6] | rw [hu] | rw [zlt_] | rw [zjn_] | rw [zob_s] | rw [zg_1] | rw [zbi_s] | rw [zbI_s] | rw [zbr_s] | rw [zbR_s] | rw [zbV_s] | rw [zbj_s] | rw [zbJ_s] | rw [zcs_s] | rw [zcs_n])
    rw [show nI k + (-1) = nI k - 1 by grind]
  · intro rr
    show gX5_applyToUnit_L3 s (nI j) rr (nI (n - 1 - (n - 1)) - 1) _ = _
    rw [Nat.sub_self]
    unfold gX5_applyToUnit_L3
    rw [if_pos (by decide)]
theorem gcdL_ok (hs : seR h s) (hn : n ≤ 10) (h13 : zI h s 13 = nI n) (C X V P Q : Nat → Int64) {col : Nat → Int64} (hV : ∀ i, i < n → V i = col i) (K : Int64 → Option (Int32 × Zh)) : zlp (fun (_ : Int64) (_ : Int32) => (none : Option (Int32 × Zh))) (gX5_findRest_L4 s (s5 h s C X V P Q) K) zFU 0 0 = K (gdV col n) := by
  obtain ⟨r5, l5⟩ : zR h s 5 = some (s + 6) ∧ zL h (s + 6) = 10 := hs 5 (by omega)
  refine zlp_it (R := Option (Int32 × Zh)) (z := fun (_ : Int64) (_ : Int32) => (none : Option (Int32 × Zh))) (F := gX5_findRest_L4 s (s5 h s C X V P Q) K) (fun i (F : Int64 → Int32 → Option (Int32 × Zh)) => F (gdV col i) (nI i)) _ n ?_ ?_ zFU (by unfold zFU; omega)
  · intro i hi rr
    show gX5_findRest_L4 s (s5 h s C X V P Q) K rr (gdV col i) (nI i) = rr (cmV (gdV col i) (col i)) (nI (i + 1))
    have ji : zin (nI i) 10 = true := zin_nI (by omega) (by omega)
    unfold gX5_findRest_L4
    rw [s5_I, h13, if_neg (zge_n hi (by omega)), zlt_, s5_R, r5, zob_s, s5_L, l5, ji, zg_1, zx_nI (show i < 2 ^ 31 by omega), s5_6, hV i hi, comC, zbj_s, ← nI_sc]
  · intro rr
    show gX5_findRest_L4 s (s5 h s C X V P Q) K rr (gdV col n) (nI n) = _
    unfold gX5_findRest_L4
    rw [s5_I, h13, if_pos (Int32.le_refl _)]
end Cls
