/-! tables from row to row: what is kept, and all bits changed -/
theorem zo_cons (w : Wt) (s t f : Nat) : ∀ p, (f + pS s p ≠ pS t p → (zo w s t f p).1 = 0) ∧ (f + pS s p ≠ 1 + pS t p → (zo w s t f p).2 = 0)
  | 0 => by
    refine ⟨fun h => ?_, fun h => ?_⟩
    · show (if f = 0 then (1 : Int64) else 0) = 0
      rw [if_neg (fun e => h (by rw [e]; rfl))]
    · show (if f = 1 then (1 : Int64) else 0) = 0
      rw [if_neg (fun e => h (by rw [e]; rfl))]
  | p + 1 => by
    obtain ⟨i1, i2⟩ := zo_cons w s t f p
    have hu : s / 2 ^ p % 2 < 2 := Nat.mod_lt _ (by decide)
    have ho : t / 2 ^ p % 2 < 2 := Nat.mod_lt _ (by decide)
    have e1 : pS s (p + 1) = pS s p + s / 2 ^ p % 2 := rfl
    have e2 : pS t (p + 1) = pS t p + t / 2 ^ p % 2 := rfl
    have key : ∀ (r : Nat), r < 2 → f + pS s (p + 1) ≠ r + pS t (p + 1) → (zo w s t f p).1 * (crN w 0 (s / 2 ^ p % 2) r (t / 2 ^ p % 2)).toInt64 + (zo w s t f p).2 * (crN w 1 (s / 2 ^ p % 2) r (t / 2 ^ p % 2)).toInt64 = 0 := by
      intro r hr h
      have k1 : (zo w s t f p).1 * (crN w 0 (s / 2 ^ p % 2) r (t / 2 ^ p % 2)).toInt64 = 0 := by
        by_cases hc : 0 + s / 2 ^ p % 2 = r + t / 2 ^ p % 2
        · rw [i1 (by omega)]; exact Int64.zero_mul
        · rw [crN_z w (by omega) hu hr ho hc]; exact Int64.mul_zero
      have k2 : (zo w s t f p).2 * (crN w 1 (s / 2 ^ p % 2) r (t / 2 ^ p % 2)).toInt64 = 0 := by
        by_cases hc : 1 + s / 2 ^ p % 2 = r + t / 2 ^ p % 2
        · rw [i2 (by omega)]; exact Int64.zero_mul
        · rw [crN_z w (by omega) hu hr ho hc]; exact Int64.mul_zero
      rw [k1, k2]; rfl
    exact ⟨fun h => key 0 (by omega) (by omega), fun h => key 1 (by omega) (by omega)⟩
theorem rowN_z {w : Wt} {n s t : Nat} (h : pS s n ≠ pS t n) : rowN w n s t = 0 := by
  unfold rowN alN
  rw [if_pos rfl, if_neg (by decide), (zo_cons w s t 0 n).1 (by omega), (zo_cons w s t 1 n).2 (by omega)]; rfl
theorem wallN_z {w : Wt} {n s t : Nat} (h : 1 + pS s n ≠ pS t n) : alN w n s t 1 0 = 0 := by
  unfold alN
  rw [if_pos rfl, (zo_cons w s t 1 n).1 h]
theorem crN_c (w : Wt) {l u r o : Nat} (hl : l < 2) (hu : u < 2) (hr : r < 2) (ho : o < 2) : crN w (1 - l) (1 - u) (1 - r) (1 - o) = crN w l u r o := by
  unfold crN
  rcases (show l = 0 ∨ l = 1 by omega) with rfl | rfl <;> rcases (show u = 0 ∨ u = 1 by omega) with rfl | rfl <;> rcases (show r = 0 ∨ r = 1 by omega) with rfl | rfl <;> rcases (show o = 0 ∨ o = 1 by omega) with rfl | rfl <;> rfl
theorem cbit : ∀ n, n ≤ 6 → ∀ s, s < 2 ^ n → ∀ p, p < n → (2 ^ n - 1 - s) / 2 ^ p % 2 = 1 - s / 2 ^ p % 2 := by
  have h : (List.range 7).all (fun n => (List.range (2 ^ n)).all (fun s => (List.range n).all (fun p => Nat.beq ((2 ^ n - 1 - s) / 2 ^ p % 2) (1 - s / 2 ^ p % 2)))) = true := by decide +kernel
  intro n hn s hs p hp
  exact Nat.eq_of_beq_eq_true (List.all_eq_true.mp (List.all_eq_true.mp (List.all_eq_true.mp h n (List.mem_range.mpr (by omega))) s (List.mem_range.mpr hs)) p (List.mem_range.mpr hp))
theorem zo_c (w : Wt) {n s t : Nat} (hn : n ≤ 6) (hs : s < 2 ^ n) (ht : t < 2 ^ n) {f : Nat} (hf : f < 2) : ∀ p, p ≤ n → zo w (2 ^ n - 1 - s) (2 ^ n - 1 - t) (1 - f) p = ((zo w s t f p).2, (zo w s t f p).1)
  | 0, _ => by
    rcases (show f = 0 ∨ f = 1 by omega) with rfl | rfl <;> rfl
  | p + 1, hp => by
    have ih := zo_c w hn hs ht hf p (by omega)
    have hu : s / 2 ^ p % 2 < 2 := Nat.mod_lt _ (by decide)
    have ho : t / 2 ^ p % 2 < 2 := Nat.mod_lt _ (by decide)
    have c00 := crN_c w (l := 0) (r := 0) (by omega) hu (by omega) ho
    have c10 := crN_c w (l := 1) (r := 0) (by omega) hu (by omega) ho
    have c01 := crN_c w (l := 0) (r := 1) (by omega) hu (by omega) ho
    have c11 := crN_c w (l := 1) (r := 1) (by omega) hu (by omega) ho
    show ((zo w (2 ^ n - 1 - s) (2 ^ n - 1 - t) (1 - f) p).1 * _ + (zo w (2 ^ n - 1 - s) (2 ^ n - 1 - t) (1 - f) p).2 * _, (zo w (2 ^ n - 1 - s) (2 ^ n - 1 - t) (1 - f) p).1 * _ + (zo w (2 ^ n - 1 - s) (2 ^ n - 1 - t) (1 - f) p).2 * _) = ((zo w s t f p).1 * (crN w 0 (s / 2 ^ p % 2) 1 (t / 2 ^ p % 2)).toInt64 + (zo w s t f p).2 * (crN w 1 (s / 2 ^ p % 2) 1 (t / 2 ^ p % 2)).toInt64, (zo w s t f p).1 * (crN w 0 (s / 2 ^ p % 2) 0 (t / 2 ^ p % 2)).toInt64 + (zo w s t f p).2 * (crN w 1 (s / 2 ^ p % 2) 0 (t / 2 ^ p % 2)).toInt64)
    rw [ih, cbit n hn s hs p (by omega), cbit n hn t ht p (by omega), ← c00, ← c10, ← c01, ← c11]
    simp only [Nat.sub_self, Nat.sub_zero]
    exact Prod.ext (Int64.add_comm _ _) (Int64.add_comm _ _)
theorem rowN_c (w : Wt) {n s t : Nat} (hn : n ≤ 6) (hs : s < 2 ^ n) (ht : t < 2 ^ n) : rowN w n (2 ^ n - 1 - s) (2 ^ n - 1 - t) = rowN w n s t := by
  have h0 := zo_c w hn hs ht (f := 0) (by omega) n (Nat.le_refl _)
  have h1 := zo_c w hn hs ht (f := 1) (by omega) n (Nat.le_refl _)
  unfold rowN alN
  rw [if_pos rfl, if_neg (by decide), if_pos rfl, if_neg (by decide)]
  have e0 : zo w (2 ^ n - 1 - s) (2 ^ n - 1 - t) 0 n = ((zo w s t 1 n).2, (zo w s t 1 n).1) := h1
  have e1 : zo w (2 ^ n - 1 - s) (2 ^ n - 1 - t) 1 n = ((zo w s t 0 n).2, (zo w s t 0 n).1) := h0
  rw [e0, e1]
  exact Int64.add_comm _ _
theorem pS_hi {s n : Nat} (hs : s < 2 ^ n) : ∀ d, pS s (n + d) = pS s n
  | 0 => rfl
  | d + 1 => by
    show pS s (n + d) + s / 2 ^ (n + d) % 2 = pS s n
    have : s < 2 ^ (n + d) := Nat.lt_of_lt_of_le hs (Nat.pow_le_pow_right (by decide) (by omega))
    rw [pS_hi hs d, Nat.div_eq_of_lt this]; omega
/-! sums over lists of numbers -/
theorem sF_rev (F : Nat → Int64) : ∀ l : List Nat, sF F l.reverse = sF F l
  | [] => rfl
  | x :: l => by
    rw [List.reverse_cons, sF_app, sF_rev F l]
    show sF F l + (F x + 0) = F x + sF F l
    grind
theorem sF_map (F : Nat → Int64) (g : Nat → Nat) : ∀ l : List Nat, sF F (l.map g) = sF (fun x => F (g x)) l
  | [] => rfl
  | x :: l => by
    show F (g x) + sF F (l.map g) = _
    rw [sF_map F g l]; rfl
theorem sF_cg {F G : Nat → Int64} : ∀ l : List Nat, (∀ x ∈ l, F x = G x) → sF F l = sF G l
  | [], _ => rfl
  | x :: l, h => by
    show F x + sF F l = G x + sF G l
    rw [h x List.mem_cons_self, sF_cg l (fun y hy => h y (List.mem_cons_of_mem _ hy))]
theorem sF_filt (F : Nat → Int64) (b : Nat → Bool) : ∀ l : List Nat, (∀ x ∈ l, b x = false → F x = 0) → sF F (l.filter b) = sF F l
  | [], _ => rfl
  | x :: l, h => by
    have ih := sF_filt F b l (fun y hy => h y (List.mem_cons_of_mem _ hy))
    by_cases hb : b x = true
    · rw [List.filter_cons_of_pos hb]
      show F x + _ = F x + _
      rw [ih]
    · rw [List.filter_cons_of_neg hb, ih]
      show _ = F x + _
      rw [h x List.mem_cons_self (by simpa using hb)]; grind
def sN (F : Nat → Nat) : List Nat → Nat
  | [] => 0
  | x :: l => F x + sN F l
theorem sN_app (F : Nat → Nat) : ∀ (a b : List Nat), sN F (a ++ b) = sN F a + sN F b
  | [], b => by show sN F b = 0 + sN F b; omega
  | x :: a, b => by
    show F x + sN F (a ++ b) = F x + sN F a + sN F b
    rw [sN_app F a b]; omega
theorem sN_rev (F : Nat → Nat) : ∀ l : List Nat, sN F l.reverse = sN F l
  | [] => rfl
  | x :: l => by
    rw [List.reverse_cons, sN_app, sN_rev F l]
    show sN F l + (F x + 0) = F x + sN F l
    omega
theorem sN_map (F : Nat → Nat) (g : Nat → Nat) : ∀ l : List Nat, sN F (l.map g) = sN (fun x => F (g x)) l
  | [] => rfl
  | x :: l => by
    show F (g x) + sN F (l.map g) = _
    rw [sN_map F g l]; rfl
theorem sN_cg {F G : Nat → Nat} : ∀ l : List Nat, (∀ x ∈ l, F x = G x) → sN F l = sN G l
  | [], _ => rfl
  | x :: l, h => by
    show F x + sN F l = G x + sN G l
    rw [h x List.mem_cons_self, sN_cg l (fun y hy => h y (List.mem_cons_of_mem _ hy))]
theorem sN_filt (F : Nat → Nat) (b : Nat → Bool) : ∀ l : List Nat, (∀ x ∈ l, b x = false → F x = 0) → sN F (l.filter b) = sN F l
  | [], _ => rfl
  | x :: l, h => by
    have ih := sN_filt F b l (fun y hy => h y (List.mem_cons_of_mem _ hy))
    by_cases hb : b x = true
    · rw [List.filter_cons_of_pos hb]
      show F x + _ = F x + _
      rw [ih]
    · rw [List.filter_cons_of_neg hb, ih]
      show _ = F x + _
      rw [h x List.mem_cons_self (by simpa using hb)]; omega
/-- states of a row with so many up -/
def msL (n up : Nat) : List Nat := (List.range (2 ^ n)).filter (fun s => Nat.beq (pS s 8) up)
def cmN (n s : Nat) : Nat := 2 ^ n - 1 - s
theorem ms_fin : (List.range 7).all (fun n => (List.range (n + 1)).all (fun up => (msL n (n - up) == ((msL n up).map (cmN n)).reverse) && Nat.ble (msL n up).length 20) && (List.range (2 ^ n) == ((List.range (2 ^ n)).map (cmN n)).reverse)) = true := by decide +kernel
theorem ms_c {n : Nat} (hn : n ≤ 6) {up : Nat} (hu : up ≤ n) : msL n (n - up) = ((msL n up).map (cmN n)).reverse ∧ (msL n up).length ≤ 20 ∧ List.range (2 ^ n) = ((List.range (2 ^ n)).map (cmN n)).reverse := by
  have h1 := List.all_eq_true.mp ms_fin n (List.mem_range.mpr (by omega))
  simp only [Bool.and_eq_true] at h1
  have h2 := List.all_eq_true.mp h1.1 up (List.mem_range.mpr (by omega))
  simp only [Bool.and_eq_true] at h2
  exact ⟨by simpa using h2.1, Nat.le_of_ble_eq_true h2.2, by simpa using h1.2⟩
theorem ms_mem {n up s : Nat} : s ∈ msL n up ↔ s < 2 ^ n ∧ pS s 8 = up := by
  unfold msL
  rw [List.mem_filter, List.mem_range]
  exact ⟨fun h => ⟨h.1, Nat.eq_of_beq_eq_true h.2⟩, fun h => ⟨h.1, by rw [h.2]; exact Nat.beq_refl up⟩⟩
theorem sF_c {n : Nat} (hn : n ≤ 6) (F : Nat → Int64) : sF F (List.range (2 ^ n)) = sF (fun x => F (cmN n x)) (List.range (2 ^ n)) := by
  conv => lhs; rw [(ms_c hn (Nat.zero_le n)).2.2]
  rw [sF_rev, sF_map]
theorem sN_c {n : Nat} (hn : n ≤ 6) (F : Nat → Nat) : sN F (List.range (2 ^ n)) = sN (fun x => F (cmN n x)) (List.range (2 ^ n)) := by
  conv => lhs; rw [(ms_c hn (Nat.zero_le n)).2.2]
  rw [sN_rev, sN_map]
def upS (G : Nat → Nat) : Nat → Nat
  | 0 => 0
  | u + 1 => upS G u + G u
theorem sN_ms (F : Nat → Nat) (l : List Nat) (d : Nat → Nat) : ∀ m, upS (fun u => sN F (l.filter (fun s => Nat.beq (d s) u))) m = sN (fun x => if d x < m then F x else 0) l
  | 0 => by
    induction l with
    | nil => rfl
    | cons a l ih =>
      show 0 = (if d a < 0 then F a else 0) + sN _ l
      rw [if_neg (Nat.not_lt_zero _), ← ih]; rfl
  | m + 1 => by
    show upS (fun u => sN F (l.filter (fun s => Nat.beq (d s) u))) m + sN F (l.filter (fun s => Nat.beq (d s) m)) = _
    rw [sN_ms F l d m]
    induction l with
    | nil => rfl
    | cons a l ih =>
      have e : sN F ((a :: l).filter (fun s => Nat.beq (d s) m)) = (if d a = m then F a else 0) + sN F (l.filter (fun s => Nat.beq (d s) m)) := by
        by_cases h : d a = m
        · rw [List.filter_cons_of_pos (by rw [h]; exact Nat.beq_refl m), if_pos h]; rfl
        · rw [List.filter_cons_of_neg (by intro hh; exact h (Nat.eq_of_beq_eq_true hh)), if_neg h]; omega
      rw [e]
      show (if d a < m then F a else 0) + sN (fun x => if d x < m then F x else 0) l + ((if d a = m then F a else 0) + sN F (l.filter (fun s => Nat.beq (d s) m))) = (if d a < m + 1 then F a else 0) + sN (fun x => if d x < m + 1 then F x else 0) l
      rw [← ih]
      by_cases h1 : d a < m
      · rw [if_pos h1, if_pos (show d a < m + 1 by omega), if_neg (show ¬ d a = m by omega)]; omega
      · rw [if_neg h1]
        by_cases h2 : d a = m
        · rw [if_pos h2, if_pos (by omega)]; omega
        · rw [if_neg h2, if_neg (by omega)]; omega
theorem sN_all {F : Nat → Nat} {n : Nat} (hn : n ≤ 6) : sN F (List.range (2 ^ n)) = upS (fun u => sN F (msL n u)) (n + 1) := by
  have h := sN_ms F (List.range (2 ^ n)) (fun s => pS s 8) (n + 1)
  show _ = upS (fun u => sN F ((List.range (2 ^ n)).filter (fun s => Nat.beq (pS s 8) u))) (n + 1)
  rw [h]
  refine sN_cg _ (fun x hx => ?_)
  have hx := List.mem_range.mp hx
  have e : pS x 8 = pS x n := by
    have := pS_hi hx (8 - n)
    rwa [show n + (8 - n) = 8 by omega] at this
  have := pS_le x n
  rw [if_pos (by omega)]
/-- half of the blocks, each that has another counted twice -/
def hlf (n : Nat) (G : Nat → Nat) : Nat → Nat
  | 0 => 0
  | u + 1 => hlf n G u + (if 2 * u = n then 1 else 2) * G u
theorem hlf_ok {n : Nat} (h2 : 2 ≤ n) (hn : n ≤ 6) (G : Nat → Nat) (hG : ∀ u, u ≤ n → G (n - u) = G u) : hlf n G (n / 2 + 1) = upS G (n + 1) := by
  have g0 := hG 0 (by omega)
  have g1 := hG 1 (by omega)
  rcases (show n = 2 ∨ n = 3 ∨ n = 4 ∨ n = 5 ∨ n = 6 by omega) with rfl | rfl | rfl | rfl | rfl
  · simp [hlf, upS] at *; omega
  · simp [hlf, upS] at *; omega
  · simp [hlf, upS] at *; omega
  · have g2 := hG 2 (by omega)
    simp [hlf, upS] at *; omega
  · have g2 := hG 2 (by omega)
    simp [hlf, upS] at *; omega
