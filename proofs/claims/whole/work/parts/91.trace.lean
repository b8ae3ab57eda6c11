/-! powers of tables, their diagonals, by blocks -/
theorem iS_add (F G : Nat → Int) : ∀ l : List Nat, iS (fun x => F x + G x) l = iS F l + iS G l
  | [] => rfl
  | x :: l => by
    show F x + G x + iS (fun x => F x + G x) l = (F x + iS F l) + (G x + iS G l)
    rw [iS_add F G l]; omega
theorem iS_ml (c : Int) (F : Nat → Int) : ∀ l : List Nat, iS (fun x => c * F x) l = c * iS F l
  | [] => (Int.mul_zero c).symm
  | x :: l => by
    show c * F x + iS (fun x => c * F x) l = c * (F x + iS F l)
    rw [iS_ml c F l, Int.mul_add]
theorem iS_mr (c : Int) (F : Nat → Int) : ∀ l : List Nat, iS (fun x => F x * c) l = iS F l * c
  | [] => (Int.zero_mul c).symm
  | x :: l => by
    show F x * c + iS (fun x => F x * c) l = (F x + iS F l) * c
    rw [iS_mr c F l, Int.add_mul]
theorem iS_sw (F : Nat → Nat → Int) (b : List Nat) : ∀ a : List Nat, iS (fun x => iS (fun y => F x y) b) a = iS (fun y => iS (fun x => F x y) a) b
  | [] => (iS_0 b).symm
  | x :: a => by
    show iS (fun y => F x y) b + iS (fun x => iS (fun y => F x y) b) a = iS (fun y => F x y + iS (fun x => F x y) a) b
    rw [iS_sw F b a, iS_add]
theorem iS_rev (F : Nat → Int) : ∀ l : List Nat, iS F l.reverse = iS F l
  | [] => rfl
  | x :: l => by
    rw [List.reverse_cons, iS_app, iS_rev F l]
    show iS F l + (F x + 0) = F x + iS F l
    omega
theorem iS_map (F : Nat → Int) (g : Nat → Nat) : ∀ l : List Nat, iS F (l.map g) = iS (fun x => F (g x)) l
  | [] => rfl
  | x :: l => by
    show F (g x) + iS F (l.map g) = _
    rw [iS_map F g l]; rfl
theorem iS_filt (F : Nat → Int) (b : Nat → Bool) : ∀ l : List Nat, (∀ x ∈ l, b x = false → F x = 0) → iS F (l.filter b) = iS F l
  | [], _ => rfl
  | x :: l, h => by
    have ih := iS_filt F b l (fun y hy => h y (List.mem_cons_of_mem _ hy))
    by_cases hb : b x = true
    · rw [List.filter_cons_of_pos hb]
      show F x + _ = F x + _
      rw [ih]
    · rw [List.filter_cons_of_neg hb, ih]
      show _ = F x + _
      rw [h x List.mem_cons_self (by simpa using hb)]; omega
theorem iS_get (F : Nat → Int) (l : List Nat) : iS (fun k => F (l.getD k 0)) (List.range l.length) = iS F l := by
  have e : (List.range l.length).map (fun k => l.getD k 0) = l := by
    refine List.ext_getElem (by simp) (fun i h1 h2 => ?_)
    simp [List.getD_eq_getElem?_getD, h2]
  have := iS_map F (fun k => l.getD k 0) (List.range l.length)
  rw [e] at this
  exact this.symm
theorem iS_one (F : Nat → Int) (t : Nat) : ∀ z, iS (fun x => if x = t then F x else 0) (List.range z) = if t < z then F t else 0
  | 0 => by rw [if_neg (Nat.not_lt_zero t)]; rfl
  | z + 1 => by
    rw [iS_range, iS_one F t z]
    by_cases h : t < z
    · rw [if_pos h, if_neg (show ¬ z = t by omega), if_pos (by omega)]; omega
    · rw [if_neg h]
      by_cases e : z = t
      · rw [if_pos e, if_pos (by omega), e]; omega
      · rw [if_neg e, if_neg (by omega)]; omega
theorem vP_1 (A : Nat → Nat → Int) {z s : Nat} (hs : s < z) (t : Nat) : vP A z s 1 t = A s t := by
  show iS (fun x => (if x = s then 1 else 0) * A x t) (List.range z) = _
  have : (fun x => (if x = s then (1 : Int) else 0) * A x t) = fun x => if x = s then A x t else 0 := by
    funext x
    split
    · exact Int.one_mul _
    · exact Int.zero_mul _
  rw [this, iS_one (fun x => A x t), if_pos hs]
theorem vP_add (A : Nat → Nat → Int) (z s a : Nat) : ∀ (b t : Nat), t < z → iS (fun x => vP A z s a x * vP A z x b t) (List.range z) = vP A z s (a + b) t
  | 0, t, ht => by
    have : (fun x => vP A z s a x * vP A z x 0 t) = fun x => if x = t then vP A z s a x else 0 := by
      funext x
      show vP A z s a x * (if t = x then 1 else 0) = _
      by_cases h : t = x
      · rw [if_pos h, if_pos h.symm, Int.mul_one]
      · rw [if_neg h, if_neg (fun e => h e.symm), Int.mul_zero]
    rw [this, iS_one, if_pos ht]; rfl
  | b + 1, t, ht => by
    show iS (fun x => vP A z s a x * iS (fun y => vP A z x b y * A y t) (List.range z)) (List.range z) = iS (fun y => vP A z s (a + b) y * A y t) (List.range z)
    have e1 : (fun x => vP A z s a x * iS (fun y => vP A z x b y * A y t) (List.range z)) = fun x => iS (fun y => vP A z s a x * vP A z x b y * A y t) (List.range z) := by
      funext x
      rw [← iS_ml]
      congr 1
      funext y
      exact (Int.mul_assoc _ _ _).symm
    rw [e1, iS_sw]
    refine iS_cg _ (fun y hy => ?_)
    rw [iS_mr, vP_add A z s a b y (List.mem_range.mp hy)]
abbrev rA (w : Wt) (n : Nat) : Nat → Nat → Int := fun s t => (rowN w n s t).toInt
theorem rA_z {w : Wt} {n s t : Nat} (hn : n ≤ 6) (hs : s < 2 ^ n) (ht : t < 2 ^ n) (h : pS s 8 ≠ pS t 8) : rA w n s t = 0 := by
  show (rowN w n s t).toInt = 0
  rw [row_z8 hn hs ht h]; rfl
theorem vP_b {w : Wt} {n s : Nat} (hn : n ≤ 6) (hs : s < 2 ^ n) : ∀ (r t : Nat), t < 2 ^ n → pS s 8 ≠ pS t 8 → vP (rA w n) (2 ^ n) s r t = 0
  | 0, t, ht, h => if_neg (fun e => h (by rw [e]))
  | r + 1, t, ht, h => by
    refine iS_z _ (fun x hx => ?_)
    have hx := List.mem_range.mp hx
    by_cases e : pS s 8 = pS x 8
    · rw [rA_z hn hx ht (by omega), Int.mul_zero]
    · rw [vP_b hn hs r x hx e, Int.zero_mul]
/-- products within a block -/
theorem vP_pr {w : Wt} {n s t : Nat} (hn : n ≤ 6) (hs : s < 2 ^ n) (ht : t < 2 ^ n) (a b : Nat) : iS (fun x => vP (rA w n) (2 ^ n) s a x * vP (rA w n) (2 ^ n) x b t) (msL n (pS s 8)) = vP (rA w n) (2 ^ n) s (a + b) t := by
  rw [← vP_add (rA w n) (2 ^ n) s a b t ht]
  unfold msL
  refine iS_filt _ _ _ (fun x hx hb => ?_)
  rw [vP_b hn hs a x (List.mem_range.mp hx) (fun e => by rw [e, Nat.beq_refl] at hb; cases hb), Int.zero_mul]
theorem iS_c {n : Nat} (hn : n ≤ 6) (F : Nat → Int) : iS F (List.range (2 ^ n)) = iS (fun x => F (cmN n x)) (List.range (2 ^ n)) := by
  conv => lhs; rw [(ms_c hn (Nat.zero_le n)).2.2]
  rw [iS_rev, iS_map]
theorem vP_c {w : Wt} {n s : Nat} (hn : n ≤ 6) (hs : s < 2 ^ n) : ∀ (r t : Nat), t < 2 ^ n → vP (rA w n) (2 ^ n) (cmN n s) r (cmN n t) = vP (rA w n) (2 ^ n) s r t
  | 0, t, ht => by
    show (if cmN n t = cmN n s then (1 : Int) else 0) = if t = s then 1 else 0
    unfold cmN
    by_cases h : t = s
    · rw [if_pos h, if_pos (by rw [h])]
    · rw [if_neg h, if_neg (by omega)]
  | r + 1, t, ht => by
    show iS (fun x => vP (rA w n) (2 ^ n) (cmN n s) r x * rA w n x (cmN n t)) (List.range (2 ^ n)) = iS (fun x => vP (rA w n) (2 ^ n) s r x * rA w n x t) (List.range (2 ^ n))
    rw [iS_c hn]
    refine iS_cg _ (fun x hx => ?_)
    have hx := List.mem_range.mp hx
    rw [vP_c hn hs r x hx]
    have e : rA w n (cmN n x) (cmN n t) = rA w n x t := congrArg Int64.toInt (rowN_c w hn hx ht)
    rw [e]
def upI (G : Nat → Int) : Nat → Int
  | 0 => 0
  | u + 1 => upI G u + G u
theorem iS_ms (F : Nat → Int) (l : List Nat) (d : Nat → Nat) : ∀ m, upI (fun u => iS F (l.filter (fun s => Nat.beq (d s) u))) m = iS (fun x => if d x < m then F x else 0) l
  | 0 => by
    induction l with
    | nil => rfl
    | cons a l ih =>
      show 0 = (if d a < 0 then F a else 0) + iS _ l
      rw [if_neg (Nat.not_lt_zero _), ← ih]; rfl
  | m + 1 => by
    show upI (fun u => iS F (l.filter (fun s => Nat.beq (d s) u))) m + iS F (l.filter (fun s => Nat.beq (d s) m)) = _
    rw [iS_ms F l d m]
    induction l with
    | nil => rfl
    | cons a l ih =>
      have e : iS F ((a :: l).filter (fun s => Nat.beq (d s) m)) = (if d a = m then F a else 0) + iS F (l.filter (fun s => Nat.beq (d s) m)) := by
        by_cases h : d a = m
        · rw [List.filter_cons_of_pos (by rw [h]; exact Nat.beq_refl m), if_pos h]; rfl
        · rw [List.filter_cons_of_neg (by intro hh; exact h (Nat.eq_of_beq_eq_true hh)), if_neg h]; omega
      rw [e]
      show (if d a < m then F a else 0) + iS (fun x => if d x < m then F x else 0) l + ((if d a = m then F a else 0) + iS F (l.filter (fun s => Nat.beq (d s) m))) = (if d a < m + 1 then F a else 0) + iS (fun x => if d x < m + 1 then F x else 0) l
      rw [← ih]
      by_cases h1 : d a < m
      · rw [if_pos h1, if_pos (show d a < m + 1 by omega), if_neg (show ¬ d a = m by omega)]; omega
      · rw [if_neg h1]
        by_cases h2 : d a = m
        · rw [if_pos h2, if_pos (by omega)]; omega
        · rw [if_neg h2, if_neg (by omega)]; omega
theorem iS_all {F : Nat → Int} {n : Nat} (hn : n ≤ 6) : iS F (List.range (2 ^ n)) = upI (fun u => iS F (msL n u)) (n + 1) := by
  have h := iS_ms F (List.range (2 ^ n)) (fun s => pS s 8) (n + 1)
  show _ = upI (fun u => iS F ((List.range (2 ^ n)).filter (fun s => Nat.beq (pS s 8) u))) (n + 1)
  rw [h]
  refine iS_cg _ (fun x hx => ?_)
  have hx := List.mem_range.mp hx
  have e := pS8 hn hx
  have := pS_le x n
  rw [if_pos (by omega)]
def hlI (n : Nat) (G : Nat → Int) : Nat → Int
  | 0 => 0
  | u + 1 => hlI n G u + (if 2 * u = n then 1 else 2) * G u
theorem hlI_ok {n : Nat} (h2 : 2 ≤ n) (hn : n ≤ 6) (G : Nat → Int) (hG : ∀ u, u ≤ n → G (n - u) = G u) : hlI n G (n / 2 + 1) = upI G (n + 1) := by
  have g0 := hG 0 (by omega)
  have g1 := hG 1 (by omega)
  rcases (show n = 2 ∨ n = 3 ∨ n = 4 ∨ n = 5 ∨ n = 6 by omega) with rfl | rfl | rfl | rfl | rfl
  · simp [hlI, upI] at *; omega
  · simp [hlI, upI] at *; omega
  · simp [hlI, upI] at *; omega
  · have g2 := hG 2 (by omega)
    simp [hlI, upI] at *; omega
  · have g2 := hG 2 (by omega)
    simp [hlI, upI] at *; omega
def trB (w : Wt) (n y u : Nat) : Int := iS (fun s => vP (rA w n) (2 ^ n) s y s) (msL n u)
theorem tr_all {w : Wt} {n : Nat} (h2 : 2 ≤ n) (hn : n ≤ 6) (y : Nat) : iS (fun s => vP (rA w n) (2 ^ n) s y s) (List.range (2 ^ n)) = hlI n (trB w n y) (n / 2 + 1) := by
  rw [iS_all hn, hlI_ok h2 hn _ (fun u hu => ?_)]
  · rfl
  · unfold trB
    rw [(ms_c hn hu).1, iS_rev, iS_map]
    refine iS_cg _ (fun s hs => ?_)
    have hs := (ms_mem.mp hs).1
    exact vP_c hn hs y s hs
theorem hlI_m (n : Nat) (G : Nat → Int) : ∀ u, hlI n (fun u => G u % 1000000007) u % 1000000007 = hlI n G u % 1000000007
  | 0 => rfl
  | u + 1 => by
    have ih := hlI_m n G u
    show (hlI n (fun u => G u % 1000000007) u + (if 2 * u = n then 1 else 2) * (G u % 1000000007)) % 1000000007 = (hlI n G u + (if 2 * u = n then 1 else 2) * G u) % 1000000007
    split <;> omega
theorem hlI_b (n : Nat) (G : Nat → Int) : ∀ u, 0 ≤ hlI n (fun u => G u % 1000000007) u ∧ hlI n (fun u => G u % 1000000007) u ≤ u * 2000000014
  | 0 => ⟨Int.le_refl _, by show (0 : Int) ≤ (0 : Nat) * 2000000014; omega⟩
  | u + 1 => by
    have ih := hlI_b n G u
    show 0 ≤ hlI n (fun u => G u % 1000000007) u + (if 2 * u = n then 1 else 2) * (G u % 1000000007) ∧ hlI n (fun u => G u % 1000000007) u + (if 2 * u = n then 1 else 2) * (G u % 1000000007) ≤ ((u + 1 : Nat) : Int) * 2000000014
    split <;> omega
