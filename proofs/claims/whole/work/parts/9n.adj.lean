/-! the polynomial without its root c, of the table: two ways to the same columns, and one of them isn't 0 -/
section Adj
variable {T : Nat → Nat → Int64} {n : Nat}
def mulF (T : Nat → Nat → Int64) (n : Nat) (G : Nat → Nat → Int64) (i j : Nat) : Int64 := sF (fun l => T i l * G l j) (List.range n)
def lesC (T : Nat → Nat → Int64) (c : Int64) (i j : Nat) : Int64 := T i j - (if i = j then c else 0)
theorem flM_s (T : Nat → Nat → Int64) (n : Nat) (x : Nat → Int64) (k i j : Nat) : flM T n x (k + 1) i j = mulF T n (flM T n x k) i j + (if i = j then x (k + 1) else 0) := rfl
theorem mulF_cg {G G' : Nat → Nat → Int64} {i j : Nat} (h : ∀ l, l < n → G l j = G' l j) : mulF T n G i j = mulF T n G' i j := sF_cg _ (fun l hl => by rw [h l (List.mem_range.mp hl)])
theorem mulF_les {c : Int64} {G : Nat → Nat → Int64} {i j : Nat} (hi : i < n) : mulF (lesC T c) n G i j = mulF T n G i j - c * G i j := by
  have e1 : mulF (lesC T c) n G i j = sF (fun l => T i l * G l j + (if l = i then -(c * G l j) else 0)) (List.range n) := sF_cg _ (fun l _ => by
    unfold lesC
    by_cases h : i = l
    · rw [if_pos h, if_pos h.symm]; grind
    · rw [if_neg h, if_neg (fun hh => h hh.symm)]; grind)
  rw [e1, sF_add, sF_one (fun l => -(c * G l j)), if_pos hi]
  unfold mulF
  grind
theorem mulF_add {G H : Nat → Nat → Int64} {i j : Nat} : mulF T n (fun a b => G a b + H a b) i j = mulF T n G i j + mulF T n H i j := by
  unfold mulF
  rw [← sF_add]
  exact sF_cg _ (fun l _ => by grind)
theorem mulF_smul {c : Int64} {G : Nat → Nat → Int64} {i j : Nat} : mulF T n (fun a b => c * G a b) i j = c * mulF T n G i j := by
  unfold mulF
  rw [sF_mul]
  exact sF_cg _ (fun l _ => by grind)
theorem mulF_un {v : Int64} {i j : Nat} (hj : j < n) : mulF T n (fun a b => if a = b then v else 0) i j = T i j * v := by
  have e1 : mulF T n (fun a b => if a = b then v else 0) i j = sF (fun l => if l = j then T i l * v else 0) (List.range n) := sF_cg _ (fun l _ => by
    show T i l * (if l = j then v else 0) = _
    by_cases h : l = j
    · rw [if_pos h, if_pos h]
    · rw [if_neg h, if_neg h]; grind)
  rw [e1, sF_one (fun l => T i l * v), if_pos hj]
/-- one division by x less c -/
theorem synth {c : Int64} {x y : Nat → Int64} {z : Nat} (h0 : y 0 = 1) (hy : ∀ m, m < z → y (m + 1) = x (m + 1) + c * y m) : ∀ m, m < z → ∀ i j, i < n → j < n → flM T n x (m + 1) i j = mulF (lesC T c) n (flM T n y m) i j + (if i = j then y (m + 1) else 0)
  | 0, hm, i, j, hi, hj => by
    rw [flM_s, mulF_les hi]
    have e1 : ∀ x : Nat → Int64, mulF T n (flM T n x 0) i j = T i j := fun x => by
      have h1 := mulF_un (T := T) (n := n) (v := 1) (i := i) hj
      have h2 : mulF T n (flM T n x 0) i j = mulF T n (fun a b => if a = b then 1 else 0) i j := rfl
      rw [h2, h1]; grind
    have e2 : flM T n y 0 i j = if i = j then 1 else 0 := rfl
    rw [e1, e1, e2, hy 0 hm, h0]
    by_cases h : i = j
    · rw [if_pos h, if_pos h, if_pos h]; grind
    · rw [if_neg h, if_neg h, if_neg h]; grind
  | m + 1, hm, i, j, hi, hj => by
    have ih := fun i j hi hj => synth h0 hy m (by omega) i j hi hj
    rw [flM_s, mulF_les hi]
    have e1 : mulF T n (flM T n x (m + 1)) i j = mulF T n (fun a b => mulF T n (flM T n y m) a b + (-c) * flM T n y m a b) i j + T i j * y (m + 1) := by
      have h1 : mulF T n (flM T n x (m + 1)) i j = mulF T n (fun a b => (mulF T n (flM T n y m) a b + (-c) * flM T n y m a b) + (if a = b then y (m + 1) else 0)) i j := mulF_cg (fun l hl => by
        rw [ih l j hl hj, mulF_les hl]; grind)
      rw [h1, mulF_add, mulF_un hj]
    have e2 : mulF T n (flM T n y (m + 1)) i j = mulF T n (fun a b => mulF T n (flM T n y m) a b) i j + T i j * y (m + 1) := by
      have h1 : mulF T n (flM T n y (m + 1)) i j = mulF T n (fun a b => mulF T n (flM T n y m) a b + (if a = b then y (m + 1) else 0)) i j := mulF_cg (fun l hl => flM_s T n y m l j)
      rw [h1, mulF_add, mulF_un hj]
    have e3 : flM T n y (m + 1) i j = mulF T n (flM T n y m) i j + (if i = j then y (m + 1) else 0) := flM_s T n y m i j
    rw [e1, mulF_add, mulF_smul, e2, e3, hy (m + 1) hm]
    by_cases h : i = j
    · rw [if_pos h, if_pos h, if_pos h]; grind
    · rw [if_neg h, if_neg h, if_neg h]; grind
end Adj
section Rst
variable {T : Nat → Nat → Int64} {n : Nat} {p : Nat → Int64}
theorem rZ_fin (c : Int) (n : Nat) (x : Nat → Int) {k : Nat} (hk : k < n) : ∀ u, rZ c n x (n - k + u) (k + 1) = rZ c n x (n - k) (k + 1)
  | 0 => rfl
  | u + 1 => by
    show (if k + 1 ≤ n - (n - k + u) then sZ c (rZ c n x (n - k + u)) (k + 1) else rZ c n x (n - k + u) (k + 1)) = _
    rw [if_neg (by omega)]
    exact rZ_fin c n x hk u
theorem rZ_sc (c : Int) (n : Nat) (x : Nat → Int) (i : Nat) {m : Nat} (hm : m < n - i) : rZ c n x (i + 1) (m + 1) = rZ c n x i (m + 1) + c * rZ c n x (i + 1) m := by
  have h1 : rZ c n x (i + 1) (m + 1) = sZ c (rZ c n x i) (m + 1) := if_pos (by omega)
  have h2 : rZ c n x (i + 1) m = sZ c (rZ c n x i) m := if_pos (by omega)
  rw [h1, h2]; rfl
/-- the class's way and the reference's -/
theorem adj_same {c : Int} (h0 : p 0 = 1) : ∀ k, k < n → ∀ i j, i < n → j < n → flM T n (fun m => oI (rZ c n (fun m => (p m).toInt) (n - k) m)) k i j = flM (lesC T (oI c)) n (fun m => oI (shF c n p m)) k i j
  | 0, _, i, j, _, _ => rfl
  | k + 1, hk, i, j, hi, hj => by
    have ih := adj_same (c := c) h0 k (by omega)
    rw [synth (z := k + 1) (c := oI c) (y := fun m => oI (rZ c n (fun m => (p m).toInt) (n - k) m)) (by
      show oI (rZ c n (fun m => (p m).toInt) (n - k) 0) = 1
      rw [rZ_top, h0]; decide) (fun m hm => by
      show oI (rZ c n (fun m => (p m).toInt) (n - k) (m + 1)) = oI (rZ c n (fun m => (p m).toInt) (n - (k + 1)) (m + 1)) + oI c * oI (rZ c n (fun m => (p m).toInt) (n - k) m)
      rw [← oI_mul, ← oI_add, show n - k = n - (k + 1) + 1 by omega, rZ_sc c n _ (n - (k + 1)) (by omega)]) k (by omega) i j hi hj, flM_s]
    have e1 : mulF (lesC T (oI c)) n (flM T n (fun m => oI (rZ c n (fun m => (p m).toInt) (n - k) m)) k) i j = mulF (lesC T (oI c)) n (flM (lesC T (oI c)) n (fun m => oI (shF c n p m)) k) i j := mulF_cg (fun l hl => ih l j hl hj)
    have e2 : rZ c n (fun m => (p m).toInt) (n - k) (k + 1) = shF c n p (k + 1) := by
      have := rZ_fin c n (fun m => (p m).toInt) (show k < n by omega) k
      rw [show n - k + k = n by omega] at this
      exact this.symm
    rw [e1, e2]
/-- the numbers of the polynomial without its root -/
def rsS (c : Int) (p : Nat → Int64) (m : Nat) : Int64 := oI (sZ c (fun m => (p m).toInt) m)
theorem rsS_s (c : Int) (p : Nat → Int64) (m : Nat) : rsS c p (m + 1) = p (m + 1) + oI c * rsS c p m := by
  show oI ((p (m + 1)).toInt + c * sZ c (fun m => (p m).toInt) m) = _
  rw [oI_add, oI_mul, oI_t]; rfl
theorem rsS_0 (c : Int) (h0 : p 0 = 1) : rsS c p 0 = 1 := by
  show oI (p 0).toInt = 1
  rw [oI_t, h0]
def rsM (T : Nat → Nat → Int64) (n : Nat) (p : Nat → Int64) (c : Int) (i j : Nat) : Int64 := flM T n (rsS c p) (n - 1) i j
theorem flM_cg {x y : Nat → Int64} : ∀ k, (∀ m, m ≤ k → x m = y m) → ∀ i j, flM T n x k i j = flM T n y k i j
  | 0, _, i, j => rfl
  | k + 1, h, i, j => by
    rw [flM_s, flM_s, h (k + 1) (Nat.le_refl _), mulF_cg (fun l _ => flM_cg k (fun m hm => h m (by omega)) l j)]
theorem rsM_eq {c : Int} (h0 : p 0 = 1) (hn : 0 < n) {i j : Nat} (hi : i < n) (hj : j < n) : flM (lesC T (oI c)) n (fun m => oI (shF c n p m)) (n - 1) i j = rsM T n p c i j := by
  rw [← adj_same (T := T) h0 (n - 1) (by omega) i j hi hj]
  refine flM_cg _ (fun m hm => ?_) i j
  show oI (rZ c n (fun m => (p m).toInt) (n - (n - 1)) m) = oI (sZ c (fun m => (p m).toInt) m)
  rw [show n - (n - 1) = 1 by omega]
  exact congrArg oI (if_pos (show m ≤ n - 0 by rw [Nat.sub_zero]; omega))
def trOk (T : Nat → Nat → Int64) (n : Nat) (p : Nat → Int64) : Prop := ∀ k, k < n → flT T n p k + jN (k + 1) * p (k + 1) = 0
def trF (n : Nat) (G : Nat → Nat → Int64) : Int64 := sF (fun i => G i i) (List.range n)
theorem sF_cst (v : Int64) : ∀ n, sF (fun _ => v) (List.range n) = jN n * v
  | 0 => by show (0 : Int64) = jN 0 * v; rw [jN_0]; grind
  | n + 1 => by rw [sF_range, sF_cst v n, jN_s]; grind
theorem tr_fl (h0 : p 0 = 1) (ht : trOk T n p) : ∀ k, k ≤ n → trF n (flM T n p k) = (jN n - jN k) * p k
  | 0, _ => by
    have e : trF n (flM T n p 0) = sF (fun _ => 1) (List.range n) := sF_cg _ (fun i _ => if_pos rfl)
    rw [e, sF_cst, h0, jN_0]; grind
  | k + 1, hk => by
    have e : trF n (flM T n p (k + 1)) = flT T n p k + jN n * p (k + 1) := by
      rw [← sF_cst, flT, ← sF_add]
      exact sF_cg _ (fun i _ => by
        show flM T n p (k + 1) i i = _
        rw [flM_s, if_pos rfl]; rfl)
    have h1 := ht k (by omega)
    rw [e]; grind
/-- H: as FL's matrices, and c times the one before -/
theorem hm_rel {c : Int} (h0 : p 0 = 1) : ∀ m, ∀ i j, j < n → flM T n (rsS c p) (m + 1) i j = flM T n p (m + 1) i j + oI c * flM T n (rsS c p) m i j
  | 0, i, j, hj => by
    rw [flM_s, flM_s, rsS_s, rsS_0 c h0]
    have e1 : mulF T n (flM T n (rsS c p) 0) i j = mulF T n (flM T n p 0) i j := rfl
    have e2 : flM T n (rsS c p) 0 i j = if i = j then 1 else 0 := rfl
    rw [e1, e2]
    by_cases h : i = j
    · rw [if_pos h, if_pos h, if_pos h]; grind
    · rw [if_neg h, if_neg h, if_neg h]; grind
  | m + 1, i, j, hj => by
    rw [flM_s T n (rsS c p) (m + 1), flM_s T n p (m + 1), rsS_s]
    have e1 : mulF T n (flM T n (rsS c p) (m + 1)) i j = mulF T n (flM T n p (m + 1)) i j + oI c * mulF T n (flM T n (rsS c p) m) i j := by
      rw [mulF_cg (G' := fun a b => flM T n p (m + 1) a b + oI c * flM T n (rsS c p) m a b) (fun l _ => hm_rel h0 m l j hj), mulF_add, mulF_smul]
    have e3 : flM T n (rsS c p) (m + 1) i j = mulF T n (flM T n (rsS c p) m) i j + (if i = j then rsS c p (m + 1) else 0) := flM_s T n _ m i j
    rw [e1, e3]
    by_cases h : i = j
    · rw [if_pos h, if_pos h, if_pos h]; grind
    · rw [if_neg h, if_neg h, if_neg h]; grind
def uPv (c : Int) (n : Nat) (p : Nat → Int64) : Nat → Int64
  | 0 => 0
  | k + 1 => oI c * oI (sZ c (rZ c n (fun m => (p m).toInt) 1) k)
theorem tr_rel {c : Int} (h0 : p 0 = 1) (ht : trOk T n p) : ∀ m, m < n → trF n (flM T n (rsS c p) m) = (jN n - jN m) * rsS c p m + uPv c n p m
  | 0, hm => by
    have e : trF n (flM T n (rsS c p) 0) = sF (fun _ => 1) (List.range n) := sF_cg _ (fun i _ => if_pos rfl)
    show trF n (flM T n (rsS c p) 0) = (jN n - jN 0) * rsS c p 0 + 0
    rw [e, sF_cst, rsS_0 c h0, jN_0]; grind
  | m + 1, hm => by
    have ih := tr_rel (c := c) h0 ht m (by omega)
    have e : trF n (flM T n (rsS c p) (m + 1)) = trF n (flM T n p (m + 1)) + oI c * trF n (flM T n (rsS c p) m) := by
      unfold trF
      rw [sF_mul, ← sF_add]
      exact sF_cg _ (fun i hi => hm_rel h0 m i i (List.mem_range.mp hi))
    rw [e, tr_fl h0 ht (m + 1) (by omega), ih, rsS_s, jN_s]
    show _ = (jN n - (jN m + 1)) * (p (m + 1) + oI c * rsS c p m) + oI c * oI (sZ c (rZ c n (fun m => (p m).toInt) 1) m)
    have e2 : oI (sZ c (rZ c n (fun m => (p m).toInt) 1) m) = rsS c p m + uPv c n p m := by
      cases m with
      | zero =>
        show oI (rZ c n (fun m => (p m).toInt) 1 0) = rsS c p 0 + 0
        rw [rZ_top, rsS_0 c h0, oI_t, h0]; grind
      | succ k =>
        show oI (rZ c n (fun m => (p m).toInt) 1 (k + 1) + c * sZ c (rZ c n (fun m => (p m).toInt) 1) k) = rsS c p (k + 1) + oI c * oI (sZ c (rZ c n (fun m => (p m).toInt) 1) k)
        rw [oI_add, oI_mul]
        have : rZ c n (fun m => (p m).toInt) 1 (k + 1) = sZ c (fun m => (p m).toInt) (k + 1) := if_pos (show k + 1 ≤ n - 0 by rw [Nat.sub_zero]; omega)
        rw [this]; rfl
    rw [e2]
    grind
theorem tr_end {c : Int} (h0 : p 0 = 1) (ht : trOk T n p) (hn : 0 < n) : trF n (fun i j => rsM T n p c i j) = oI (shF c n p (n - 1)) := by
  show trF n (flM T n (rsS c p) (n - 1)) = _
  rw [tr_rel (c := c) h0 ht (n - 1) (by omega)]
  obtain ⟨k, rfl⟩ : ∃ k, n = k + 1 := ⟨n - 1, by omega⟩
  rw [show k + 1 - 1 = k by omega, jN_s]
  cases k with
  | zero =>
    show (jN 0 + 1 - jN 0) * rsS c p 0 + 0 = oI (rZ c 1 (fun m => (p m).toInt) 1 0)
    rw [rZ_top, rsS_0 c h0, oI_t, h0, jN_0]; grind
  | succ k =>
    show (jN (k + 1) + 1 - jN (k + 1)) * rsS c p (k + 1) + oI c * oI (sZ c (rZ c (k + 1 + 1) (fun m => (p m).toInt) 1) k) = oI (rZ c (k + 1 + 1) (fun m => (p m).toInt) (k + 1 + 1) (k + 1))
    have e1 := rZ_fin c (k + 1 + 1) (fun m => (p m).toInt) (show k < k + 1 + 1 by omega) k
    rw [show k + 1 + 1 - k + k = k + 1 + 1 by omega, show k + 1 + 1 - k = 1 + 1 by omega] at e1
    have e2 : rZ c (k + 1 + 1) (fun m => (p m).toInt) (1 + 1) (k + 1) = sZ c (rZ c (k + 1 + 1) (fun m => (p m).toInt) 1) (k + 1) := if_pos (show k + 1 ≤ k + 1 + 1 - 1 by omega)
    have e3 : sZ c (rZ c (k + 1 + 1) (fun m => (p m).toInt) 1) (k + 1) = rZ c (k + 1 + 1) (fun m => (p m).toInt) 1 (k + 1) + c * sZ c (rZ c (k + 1 + 1) (fun m => (p m).toInt) 1) k := rfl
    have e4 : rZ c (k + 1 + 1) (fun m => (p m).toInt) 1 (k + 1) = sZ c (fun m => (p m).toInt) (k + 1) := if_pos (show k + 1 ≤ k + 1 + 1 - 0 by omega)
    rw [e1, e2, e3, e4, oI_add, oI_mul]
    show _ = rsS c p (k + 1) + _
    grind
/-- some column isn't 0 -/
theorem col_ne {c : Int} (h0 : p 0 = 1) (ht : trOk T n p) (hn : 0 < n) (hF : oI (shF c n p (n - 1)) ≠ 0) : ∃ j, j < n ∧ rsM T n p c j j ≠ 0 := by
  apply Classical.byContradiction
  intro hh
  apply hF
  rw [← tr_end h0 ht hn]
  refine sF_z _ (fun i hi => ?_)
  apply Classical.byContradiction
  intro h1
  exact hh ⟨i, List.mem_range.mp hi, h1⟩
end Rst
